import java.util.ArrayList;
import java.util.Arrays;
import java.util.List;

/** One call of the face, by its name and numbers, so that runs of calls can be written down and made again. */
record Call(String name, int... numbers) {
    /** An object is used for so many calls at most; what later ones answer is free. */
    static final int MOST = 512;

    /** Calls told by texts: "joins 3", "sees 0 -9", "undo"; "text .." is a call of type for each letter. */
    static List<Call> run(String... told) {
        List<Call> calls = new ArrayList<>();
        for (String one : told) {
            if (one.startsWith("text ")) {
                one.substring(5).chars().forEach(letter -> calls.add(new Call("type", letter)));
            } else {
                String[] parts = one.split(" ");
                int[] numbers = Arrays.stream(parts).skip(1).mapToInt(Integer::parseInt).toArray();
                calls.add(new Call(parts[0], numbers));
            }
        }
        return calls;
    }

    /** The runs one behind another. */
    static List<Call> joined(List<?>... runs) {
        List<Call> all = new ArrayList<>();
        for (List<?> run : runs) {
            run.forEach(call -> all.add((Call) call));
        }
        if (all.size() > MOST) {
            throw new IllegalArgumentException("a test's run has " + all.size() + " calls");
        }
        return all;
    }

    int on(TalkTrees x) {
        return switch (name) {
            case "type" -> x.type(numbers[0]);
            case "clear" -> x.clear();
            case "tells" -> x.tells();
            case "joins" -> x.joins(numbers[0]);
            case "leaves" -> x.leaves(numbers[0]);
            case "rearranges" -> x.rearranges();
            case "cuts" -> x.cuts(numbers[0]);
            case "mends" -> x.mends(numbers[0]);
            case "limits" -> x.limits(numbers[0]);
            case "undo" -> x.undo();
            case "link" -> x.link(numbers[0], numbers[1]);
            case "node" -> x.node(numbers[0], numbers[1]);
            case "way" -> x.way(numbers[0], numbers[1]);
            case "tree" -> x.tree(numbers[0]);
            case "sees" -> x.sees(numbers[0], numbers[1]);
            case "forget" -> x.forget();
            case "which" -> x.which(numbers[0]);
            case "keep" -> x.keep(numbers[0]);
            case "back" -> x.back(numbers[0]);
            case "count" -> x.count(numbers[0]);
            default -> throw new IllegalArgumentException(name);
        };
    }

    @Override
    public String toString() {
        String told = Arrays.toString(numbers);
        return name + "(" + told.substring(1, told.length() - 1) + ")";
    }
}
