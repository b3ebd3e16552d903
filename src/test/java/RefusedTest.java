import java.util.List;

/**
 * "Refused, and nothing changes, the first of these that is so: BAD .., STATE .., FULL": each call that is
 * refused, by each of its reasons, on an object with nothing there, with something, and with all full; behind
 * it everything that can be asked answers as ahead of it.
 */
public final class RefusedTest {
    private static final int BAD = Check.BAD, STATE = Check.STATE, FULL = Check.FULL, NONE = Check.NONE;
    private static final int LOWEST = Integer.MIN_VALUE, HIGHEST = Integer.MAX_VALUE;

    private static final List<Call> NEW = List.of();

    /** A ring of 4 nodes, its dear link 3 DOWN; members 3, 1; LIMIT 7; image 0 alone; node 2 is what was SEEN. */
    private static final List<Call> SOME = Call.run("text nodes4;link0 1 2;link1 2 2;link2 3 2;link3 0 9;", "tells",
        "joins 3", "joins 1", "cuts 3", "keep 0", "limits 7", "sees 0 0", "sees 1 0", "text limit 3;");

    /** Link 0 is DOWN, node 2 has no links: nobody has a way. */
    private static final List<Call> APART = Call.run("text nodes3;link0 1 1;", "tells", "cuts 0");

    /** All the nodes and as many links as a text can tell; then 6 are known, both images kept. */
    private static final List<Call> BIG = Call.run("text nodes7;link0 1 9;link1 2 9;link2 3 9;link3 4 9;link4 5 9;"
        + "link5 6 9;link0 6 9;link1 6 1;link2 5 8;link3 5 3;link0 4 2;", "tells", "joins 3", "joins 6", "keep 1",
        "joins 1", "joins 5", "cuts 9", "keep 0", "leaves 1", "limits 6", "cuts 10", "joins 2", "mends 9");

    /** 6 are SEEN, THE TEXT has 120 letters. */
    private static final List<Call> ALL_FULL = fullWith("nodes 3;link 0 1 4;" + " ".repeat(101));

    private static final Check check = new Check();
    private static final Twins twins = new Twins(check);

    public static void main(String[] args) {
        fullIsFull();
        newObject();
        something();
        nobodyHasAWay();
        allFull();
        wrongWhats();
        questionsChangeNothing();
        check.end();
    }

    private static void refused(String what, List<Call> ahead, int answer, String... calls) {
        for (Call call : Call.run(calls)) {
            twins.unchanged(what, ahead, call, answer);
        }
    }

    /** The same wrong numbers for each of the calls that take one such number. */
    private static void wrong(String what, List<Call> ahead, int[] numbers, String... names) {
        for (String name : names) {
            for (int number : numbers) {
                twins.unchanged(what, ahead, new Call(name, number), BAD);
            }
        }
    }

    /** What the objects of these tests are like. */
    private static void fullIsFull() {
        TalkTrees x = Twins.made(ALL_FULL);
        int[] counts = {7, 11, 0, 6, 4, 4, 1, 6, 120, 6};
        for (int what = 0; what < counts.length; what++) {
            check.due("all full: count(" + what + ")", x.count(what), counts[what]);
        }
        x = Twins.made(SOME);
        int[] some = {4, 4, 0, 7, 2, 2, 1, 2, 8, 5};
        for (int what = 0; what < some.length; what++) {
            check.due("something: count(" + what + ")", x.count(what), some[what]);
        }
        check.due("something: which", x.which(1), 2);
    }

    private static void newObject() {
        String what = "a new object";
        wrong(what, NEW, new int[] {LOWEST, -1, 256, HIGHEST}, "type");
        wrong(what, NEW, new int[] {LOWEST, -1, 2, 32, HIGHEST}, "joins", "leaves");
        wrong(what, NEW, new int[] {LOWEST, -1, 0, 1, 12, HIGHEST}, "cuts", "mends");
        wrong(what, NEW, new int[] {LOWEST, -1, 10, HIGHEST}, "limits");
        wrong(what, NEW, new int[] {LOWEST, -1, 2, HIGHEST}, "keep", "back");
        refused(what, NEW, STATE, "joins 0", "joins 1", "leaves 0", "leaves 1", "rearranges", "limits 0", "undo",
            "back 0", "back 1");
        refused(what, NEW, BAD, "link 0 0", "link -1 0", "node 2 0", "node -1 0", "way 2 0", "way -1 0", "way 0 -1");
        seesWrong(what, NEW);
    }

    private static void seesWrong(String what, List<Call> ahead) {
        refused(what, ahead, BAD, "sees -1 0", "sees 2 0", "sees 0 -1", "sees 0 -8", "sees 0 -10", "sees 0 100",
            "sees 1 -1", "sees 1 -8", "sees 1 -10", "sees 1 100", "sees 2 -9", "sees 2 100");
        for (int number : new int[] {LOWEST, HIGHEST}) {
            twins.unchanged(what, ahead, new Call("sees", number, 0), BAD);
            twins.unchanged(what, ahead, new Call("sees", 0, number), BAD);
        }
    }

    private static void something() {
        String what = "something";
        wrong(what, SOME, new int[] {LOWEST, -1, 256, HIGHEST}, "type");
        wrong(what, SOME, new int[] {LOWEST, -32, -1, 4, 5, 7, 32, 33, 34, 35, HIGHEST}, "joins", "leaves");
        wrong(what, SOME, new int[] {LOWEST, -32, -1, 4, 5, 12, 32, 35, HIGHEST}, "cuts", "mends");
        wrong(what, SOME, new int[] {LOWEST, -1, 10, HIGHEST}, "limits");
        wrong(what, SOME, new int[] {LOWEST, -1, 2, 32, HIGHEST}, "keep", "back");
        refused(what + ": SOURCE", SOME, STATE, "joins 0", "leaves 0");
        refused(what + ": a MEMBER", SOME, STATE, "joins 1", "joins 3");
        refused(what + ": no MEMBER, though OF TREE", SOME, STATE, "leaves 2");
        refused(what + ": ANEW is not of less", SOME, STATE, "rearranges");
        refused(what + ": it is DOWN", SOME, STATE, "cuts 3");
        refused(what + ": it is not DOWN", SOME, STATE, "mends 0", "mends 1", "mends 2");
        refused(what + ": LIMIT is that", SOME, STATE, "limits 7");
        refused(what + ": none was kept", SOME, STATE, "back 1");
        refused(what + ": none any more", Call.joined(SOME, Call.run("undo", "undo", "undo", "undo", "undo")), STATE, "undo");
        refused(what + ": none behind back()", Call.joined(SOME, Call.run("back 0")), STATE, "undo");
        refused(what + ": a fault", Call.joined(SOME, Call.run("text link 0 1 x;")), -10 - 17, "tells");
        refused(what + ": ends too early", Call.joined(SOME, Call.run("text link 0 1 1")), -10 - 18, "tells");
        seesWrong(what, SOME);
    }

    private static void nobodyHasAWay() {
        refused("no WAY but by what is DOWN", APART, STATE, "joins 1");
        refused("no WAY by any link", APART, STATE, "joins 2");
        refused("no MEMBER", APART, STATE, "leaves 1", "leaves 2");
        refused("BAD goes ahead of no WAY", APART, BAD, "joins 3", "joins -1", "leaves 3", "leaves -1");
        refused("BAD goes ahead of not DOWN", APART, BAD, "mends 1", "mends -1");
        refused("ANEW is not of less: no LINKS", APART, STATE, "rearranges");
    }

    private static void allFull() {
        String what = "all full";
        refused(what + ": 120", ALL_FULL, FULL, "type 0", "type 32", "type 59", "type 120", "type 255");
        refused(what + ": 6", ALL_FULL, FULL, "sees 0 0", "sees 1 1", "sees 0 99", "sees 1 99", "sees 0 -9", "sees 1 -9");
        wrong(what + ": BAD goes ahead of FULL", ALL_FULL, new int[] {LOWEST, -1, 256, HIGHEST}, "type");
        seesWrong(what + ": BAD goes ahead of FULL", ALL_FULL);
        wrong(what, ALL_FULL, new int[] {LOWEST, -1, 7, 8, 32, HIGHEST}, "joins", "leaves");
        wrong(what, ALL_FULL, new int[] {LOWEST, -1, 11, 12, 13, 32, 42, HIGHEST}, "cuts", "mends");
        refused(what + ": SOURCE", ALL_FULL, STATE, "joins 0", "leaves 0");
        refused(what + ": a MEMBER", ALL_FULL, STATE, "joins 2", "joins 3", "joins 5", "joins 6");
        refused(what + ": no MEMBER", ALL_FULL, STATE, "leaves 1", "leaves 4");
        refused(what + ": DOWN", ALL_FULL, STATE, "cuts 10");
        refused(what + ": not DOWN", ALL_FULL, STATE, "mends 0", "mends 9");
        refused(what + ": LIMIT is that", ALL_FULL, STATE, "limits 6");
        refused(what + ": a fault at the last letter", fullWith(" ".repeat(119) + "x"), -10 - 119, "tells");
        refused(what + ": 120 letters that end too early", fullWith(" ".repeat(113) + "limit 9"), -10 - 120, "tells");
    }

    private static List<Call> fullWith(String text) {
        return Call.joined(BIG, Call.run("sees 1 1", "sees 1 1", "sees 1 1", "sees 1 1", "sees 1 1", "sees 1 1",
            "text " + text));
    }

    private static void wrongWhats() {
        for (List<Call> ahead : List.of(NEW, SOME, ALL_FULL)) {
            wrong("what", ahead, new int[] {LOWEST, -1, 7, HIGHEST}, "tree");
            wrong("what", ahead, new int[] {LOWEST, -1, 2, HIGHEST}, "which");
            wrong("what", ahead, new int[] {LOWEST, -1, 10, HIGHEST}, "count");
            for (int number : new int[] {LOWEST, -1, 7, HIGHEST}) {
                twins.unchanged("what", ahead, new Call("node", 0, number), BAD);
                twins.unchanged("a NODE", ahead, new Call("node", number, 0), BAD);
                twins.unchanged("a NODE", ahead, new Call("way", number, 0), BAD);
                twins.unchanged("both", ahead, new Call("node", number, number), BAD);
            }
            for (int number : new int[] {LOWEST, -1, 12, HIGHEST}) {
                twins.unchanged("what", ahead, new Call("link", 0, number), BAD);
                twins.unchanged("a LINK", ahead, new Call("link", number, 0), BAD);
                twins.unchanged("both", ahead, new Call("link", number, number), BAD);
            }
            refused("what", ahead, BAD, "link 0 6");
            twins.unchanged("i", ahead, new Call("way", 0, LOWEST), BAD);
            twins.unchanged("i", ahead, new Call("way", 0, -1), BAD);
            twins.unchanged("not so many", ahead, new Call("way", 0, HIGHEST), NONE);
        }
        refused("the first LINK that is none", SOME, BAD, "link 4 0", "link 4 5");
        refused("the first LINK that is none", ALL_FULL, BAD, "link 11 0", "link 11 5");
        refused("the first NODE that is none", SOME, BAD, "node 4 0", "node 4 6", "way 4 0");
        refused("i below 0, of a NODE without WAY, too", APART, BAD, "way 2 -1");
    }

    private static void questionsChangeNothing() {
        for (List<Call> ahead : List.of(NEW, SOME, APART, ALL_FULL)) {
            for (Call question : Twins.everyQuestion()) {
                twins.same("behind " + question, ahead, List.of(question));
            }
        }
        twins.same("behind all questions", SOME, Twins.everyQuestion());
    }
}
