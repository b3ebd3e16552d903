import java.io.IOException;
import java.lang.reflect.Field;
import java.lang.reflect.Method;
import java.lang.reflect.Modifier;
import java.nio.file.Files;
import java.nio.file.Path;
import java.util.Arrays;
import java.util.HashSet;
import java.util.List;
import java.util.Set;
import java.util.TreeSet;
import java.util.regex.Matcher;
import java.util.regex.Pattern;

/** The public face of the document and those rules of LANGUAGE.md that can be looked up; args: the class's file. */
public final class FaceTest {
    private static final Check check = new Check();

    private static final Set<String> METHODS = new TreeSet<>(List.of(
        "type(int)", "clear()", "tells()", "joins(int)", "leaves(int)", "rearranges()", "cuts(int)", "mends(int)",
        "limits(int)", "undo()", "link(int,int)", "node(int,int)", "way(int,int)", "tree(int)", "sees(int,int)",
        "forget()", "which(int)", "keep(int)", "back(int)", "count(int)"));

    public static void main(String[] args) throws IOException {
        face();
        nestedClasses();
        if (args.length > 0) {
            source(Files.readString(Path.of(args[0])));
        }
        check.end();
    }

    private static void face() {
        Class<?> face = TalkTrees.class;
        check.that("public and final", Modifier.isPublic(face.getModifiers()) && Modifier.isFinal(face.getModifiers()));
        check.due("constructors", face.getDeclaredConstructors().length, 1);
        check.that("a public constructor", Modifier.isPublic(face.getDeclaredConstructors()[0].getModifiers()));
        Set<String> methods = new TreeSet<>();
        for (Method method : face.getDeclaredMethods()) {
            if (!Modifier.isPrivate(method.getModifiers())) {
                check.that(method + " is public", Modifier.isPublic(method.getModifiers()));
                check.that(method + " answers an int", method.getReturnType() == int.class);
                String types = Arrays.toString(method.getParameterTypes()).replaceAll("[\\[\\] ]", "");
                methods.add(method.getName() + "(" + types + ")");
            }
        }
        check.that("the methods of the document, not " + methods, methods.equals(METHODS));
        Set<String> constants = new TreeSet<>();
        for (Field field : face.getDeclaredFields()) {
            if (!Modifier.isPrivate(field.getModifiers())) {
                check.that(field + " is a constant", Modifier.toString(field.getModifiers()).equals("public static final"));
                constants.add(field.getName());
            }
        }
        check.that("the constants of the document", constants.equals(Set.of("BAD", "STATE", "FULL", "NONE")));
    }

    private static void nestedClasses() {
        Set<String> names = new HashSet<>();
        METHODS.forEach(method -> names.add(method.substring(0, method.indexOf('('))));
        Class<?>[] nested = TalkTrees.class.getDeclaredClasses();
        check.that("twelve classes at most", nested.length < 12);
        for (Class<?> one : nested) {
            check.that(one + " is static", Modifier.isStatic(one.getModifiers()));
            check.that(one + " is not public", !Modifier.isPublic(one.getModifiers()) && !Modifier.isProtected(one.getModifiers()));
            for (Method method : one.getDeclaredMethods()) {
                check.that(method + " has a name of its own", !names.contains(method.getName()));
            }
            for (Field field : one.getDeclaredFields()) {
                check.that(field + ": static fields are final",
                    !Modifier.isStatic(field.getModifiers()) || Modifier.isFinal(field.getModifiers()));
            }
        }
    }

    private static void source(String source) {
        String bare = source.replaceAll("(?s)/\\*.*?\\*/", "").replaceAll("//[^\n]*", "");
        String forbidden = "\\b(throw|throws|try|catch|synchronized|assert|package|protected|var|Object|hashCode|"
            + "Exception|Error|Thread|Random|Scanner|HashMap|\\w+Exact)\\b|->|::|\\bSystem\\.(?!arraycopy\\b)|\\.equals\\(|\\.toString\\(";
        Matcher found = Pattern.compile(forbidden).matcher(bare);
        while (found.find()) {
            check.that("no " + found.group(), false);
        }
        Matcher imports = Pattern.compile("import [^;]*;").matcher(bare);
        while (imports.find()) {
            check.that(imports.group(), imports.group().equals("import java.util.Arrays;"));
        }
        for (String line : bare.split("\n")) {
            boolean making = line.matches(".*\\bnew\\b.*");
            boolean inField = line.matches("\\s+(private )?final .* = new .*;");
            boolean inConstructorsLoop = line.matches("\\s+(images\\[image]|known\\[i]) = new Talk\\(\\);");
            check.that("no call makes objects: " + line.trim(), !making || inField || inConstructorsLoop);
        }
    }
}
