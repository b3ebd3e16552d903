/** Each promise of the document by its number: ordinary inputs, the edges that it names, wrong inputs. */
public final class PromisesTest {
    private static final int BAD = Check.BAD, STATE = Check.STATE, FULL = Check.FULL, NONE = Check.NONE;

    /** Links 0: 0-1 4, 1: 0-2 3, 2: 1-3 2, 3: 2-3 2, 4: 3-4 1, 5: 4-5 1, 6: 2-5 6. */
    private static final String SIX =
        "nodes 6;link 0 1 4;link 0 2 3;link 1 3 2;link 2 3 2;link 3 4 1;link 4 5 1;link 2 5 6;";
    /** A chain 0-1-2-3, each link of cost 2, and a dear link 3 from 3 to 0. */
    private static final String RING = "nodes4;link0 1 2;link1 2 2;link2 3 2;link3 0 9;";
    /** The same chain alone. */
    private static final String CHAIN = "nodes4;link0 1 2;link1 2 2;link2 3 2;";

    private static final Check check = new Check();

    private static void due(String call, int got, int want) {
        check.due(call, got, want);
    }

    public static void main(String[] args) {
        promise1NewObject();
        promise2Type();
        promise3Clear();
        promise4TellsItems();
        promise4TellsAnew();
        promise4Faults();
        promise5Joins();
        promise5JoinsByLimit();
        promise6Leaves();
        promise7Rearranges();
        promise8Cuts();
        promise8CutsAndLoses();
        promise9Mends();
        promise10Limits();
        promise11Undo();
        promise12Link();
        promise13Node();
        promise14Way();
        promise15Tree();
        promise15Least();
        promise16Sees();
        promise17Forget();
        promise18Which();
        promise19And20Images();
        promise21Count();
        check.end();
    }

    private static void promise1NewObject() {
        TalkTrees x = new TalkTrees();
        int[] counts = {2, 0, 0, 0, 0, 0, 0, 0, 0, 0};
        for (int what = 0; what < counts.length; what++) {
            due("1: count(" + what + ")", x.count(what), counts[what]);
        }
        due("1: node(0, 0)", x.node(0, 0), 2);
        due("1: node(1, 0)", x.node(1, 0), 0);
        due("1: node(2, 0)", x.node(2, 0), BAD);
        due("1: link(0, 0)", x.link(0, 0), BAD);
        due("1: BAD", TalkTrees.BAD, -1);
        due("1: STATE", TalkTrees.STATE, -2);
        due("1: FULL", TalkTrees.FULL, -3);
        due("1: NONE", TalkTrees.NONE, -9);
    }

    private static void promise2Type() {
        TalkTrees x = new TalkTrees();
        due("2: type(-1)", x.type(-1), BAD);
        due("2: type(256)", x.type(256), BAD);
        due("2: type(0)", x.type(0), 1);
        due("2: type(255)", x.type(255), 2);
        for (int i = 3; i <= 120; i++) {
            due("2: type, the " + i + "th", x.type(' '), i);
        }
        due("2: a 121st", x.type(' '), FULL);
        due("2: BAD goes ahead of FULL", x.type(256), BAD);
        due("2: count(8)", x.count(8), 120);
    }

    private static void promise3Clear() {
        TalkTrees x = new TalkTrees();
        due("3: clear() of none", x.clear(), 0);
        Check.type(x, "nodes 3;");
        due("3: clear()", x.clear(), 8);
        due("3: count(8)", x.count(8), 0);
        due("3: tells() of none", x.tells(), 0);
        due("3: N", x.count(0), 2);
    }

    private static void promise4TellsItems() {
        TalkTrees x = new TalkTrees();
        due("4: no items", Check.tell(x, ""), 0);
        due("4: that can be undone", x.count(9), 1);
        due("4: blanks alone", Check.tell(x, "   "), 0);
        due("4: one", Check.tell(x, "nodes 7;"), 1);
        due("4: N", x.count(0), 7);
        due("4: the text is empty", x.count(8), 0);
        due("4: four kinds", Check.tell(x, " nodes 3 ; source2;limit 4;limit 9;link 2 0 9 ; "), 5);
        due("4: N", x.count(0), 3);
        due("4: source", x.count(2), 2);
        due("4: the later limit", x.count(3), 9);
        due("4: links", x.count(1), 1);
        due("4: its first node", x.link(0, 0), 2);
        due("4: its second node", x.link(0, 1), 0);
        due("4: its cost", x.link(0, 2), 9);
        due("4: blanks are not needed by words", Check.tell(x, "nodes3;link1 2 1;source0;"), 3);
        due("4: what is not told is as at first", x.count(3), 0);
        due("4: no nodes told", Check.tell(x, "limit0;source1;link0 1 5;"), 3);
        due("4: N", x.count(0), 2);
        due("4: eleven links", Check.tell(x, "nodes6;link0 1 1;link0 2 1;link0 3 1;link0 4 1;link0 5 1;link1 2 1;"
            + "link1 3 1;link1 4 1;link1 5 1;link2 3 1;link2 4 1;"), 12);
        due("4: links", x.count(1), 11);
        due("4: the last", x.link(10, 1), 4);
        due("4: source as at first", x.count(2), 0);
        due("4: a fault behind a source", Check.tell(x, "source1;x"), -18);
        due("4: no source told", Check.tell(x, "limit1;"), 1);
        due("4: source as at first", x.count(2), 0);
    }

    private static void promise4TellsAnew() {
        TalkTrees x = Check.told(RING);
        x.joins(2);
        x.cuts(3);
        x.limits(8);
        x.sees(0, 4);
        x.keep(1);
        due("4: anew", Check.tell(x, CHAIN), 4);
        due("4: limit", x.count(3), 0);
        due("4: members", x.count(4), 0);
        due("4: marks", x.count(5), 0);
        due("4: down", x.count(6), 0);
        due("4: seen stays", x.count(7), 1);
        due("4: tree", x.tree(4), 0);
        due("4: undone", x.count(9), 5);
        due("4: images stay", x.back(1), 1);
        due("4: as kept", x.count(1), 4);
    }

    private static void fault(String text, int place) {
        TalkTrees x = Check.told(RING);
        x.joins(2);
        int undone = x.count(9);
        Check.type(x, text);
        due("4: '" + text + "'", x.tells(), -10 - place);
        due("4: '" + text + "' stays", x.clear(), text.length());
        due("4: nothing changes: links", x.count(1), 4);
        due("4: nothing changes: tree", x.tree(4), 3);
        due("4: nothing changes: undone", x.count(9), undone);
    }

    private static void promise4Faults() {
        fault("nodes 1;", 6);
        fault("nodes 8;", 6);
        fault("nodes 22;", 6);
        fault("nodes 02;", 6);
        fault("nodes ;", 6);
        fault("nodes", 5);
        fault("nodes  ", 7);
        fault("nodes 3", 7);
        fault("nodes 3 ", 8);
        fault("nodes 3 3;", 8);
        fault("nodes 3;nodes 3;", 8);
        fault("limit 3;nodes 3;", 8);
        fault("source 1; nodes 3;", 10);
        fault("link 0 1 1;nodes 3;", 11);
        fault("source 2;", 7);
        fault("nodes 3;source 3;", 15);
        fault("source 1;source 1;", 9);
        fault("source 1;limit 2;source 0;", 17);
        fault("limit 10;", 6);
        fault("limit;", 5);
        fault("limit source", 6);
        fault("link 2 0 1;", 5);
        fault("link 0 2 1;", 7);
        fault("link 0 0 1;", 7);
        fault("link 1 1", 7);
        fault("link 0 1 0;", 9);
        fault("link 0 1 10;", 9);
        fault("link 01 1;", 5);
        fault("link 0 1;", 8);
        fault("link 0 1 1 ;;", 12);
        fault("link 0 1 1 link", 11);
        fault("link 0 1 1;link 0 1 2;", 18);
        fault("link 0 1 1;link 1 0 2;", 18);
        fault("nodes 3;link 0 1 1;link 2 1 1;link 0 2 1;link 2 0 1;", 48);
        fault(";", 0);
        fault("  ;", 2);
        fault("5", 0);
        fault("links 0 1 1;", 0);
        fault("linka 0 1 1;", 0);
        fault("linkz 0 1 1;", 0);
        fault("pink 0 1 1;", 0);
        fault("lin", 0);
        fault("nodesource", 0);
        fault("Nodes 3;", 0);
        fault("nodes 3;x", 8);
        fault("nodes\t3;", 5);
        fault("nodes -3;", 6);
        fault("nodes 3,", 7);
        fault("nodes 3;" + (char) 0, 8);
        fault("nodes 3;" + (char) 233, 8);
        fault("limit 3", 7);
        fault("link 0 1 1", 10);
    }

    private static void promise5Joins() {
        TalkTrees x = Check.told(SIX);
        due("5: joins(6)", x.joins(6), BAD);
        due("5: joins(-1)", x.joins(-1), BAD);
        due("5: of SOURCE", x.joins(0), STATE);
        due("5: refused: nothing can be undone but tells()", x.count(9), 1);
        due("5: joins(4)", x.joins(4), 6);
        due("5: its least way, of fewest links", x.tree(4), 0b11010);
        due("5: again", x.joins(4), STATE);
        due("5: joins(3), that is OF TREE", x.joins(3), 6);
        due("5: a member", x.node(3, 0), 1);
        due("5: joins(1), by the tree", x.joins(1), 8);
        due("5: tree", x.tree(4), 0b11110);
        due("5: marks", x.count(5), 3);
        due("5: the first", x.node(4, 5), 0);
        due("5: the second", x.node(3, 5), 1);
        due("5: the third", x.node(1, 5), 2);
        x = Check.told("nodes 3;link 0 1 1;");
        due("5: no way", x.joins(2), STATE);
        x.cuts(0);
        due("5: no way but by what is down", x.joins(1), STATE);
    }

    private static void promise5JoinsByLimit() {
        TalkTrees x = Check.told(SIX);
        x.limits(2);
        x.joins(4);
        due("5: a mark", x.count(5), 1);
        due("5: COST behind REARRANGED", x.joins(1), 7);
        due("5: anew", x.tree(4), 0b10101);
        due("5: no marks", x.count(5), 0);
        due("5: undone at once", x.undo(), 3);
        due("5: as ahead of it", x.tree(4), 0b11010);
        due("5: its mark", x.node(4, 5), 0);

        x = Check.told("nodes3;limit1;link0 1 1;link0 2 1;");
        due("5: not cheaper", x.joins(1), 1);
        due("5: marks are none in any case", x.count(5), 0);

        x = Check.told("nodes3;limit2;link0 2 2;link1 2 1;link0 1 2;");
        x.joins(2);
        due("5: ANEW of other links, but not of less", x.joins(1), 3);
        due("5: TREE stays", x.tree(4), 0b011);
        due("5: marks are none", x.count(5), 0);

        x = Check.told(CHAIN);
        x.joins(1);
        x.joins(2);
        x.joins(3);
        x.limits(2);
        due("5: nothing is rearranged by limits()", x.count(5), 3);
        x.leaves(3);
        due("5: more marks than LIMIT, or as many", x.count(5), 0);
    }

    private static void promise6Leaves() {
        TalkTrees x = Check.told(SIX);
        due("6: leaves(6)", x.leaves(6), BAD);
        due("6: leaves(-1)", x.leaves(-1), BAD);
        due("6: of SOURCE", x.leaves(0), STATE);
        due("6: of no member", x.leaves(4), STATE);
        x.joins(4);
        x.joins(1);
        x.joins(5);
        due("6: of one that is needed yet", x.leaves(4), 9);
        due("6: no member", x.node(4, 0), 0);
        due("6: OF TREE yet", x.node(4, 1), 1);
        due("6: its mark is taken out", x.node(4, 5), NONE);
        due("6: marks move on", x.node(1, 5), 0);
        due("6: and on", x.node(5, 5), 1);
        due("6: pruned to where somebody is served", x.leaves(5), 7);
        due("6: tree", x.tree(4), 0b01110);
        due("6: marks", x.count(5), 1);
        due("6: all the rest is pruned", x.leaves(1), 0);
        due("6: tree", x.tree(4), 0);
        due("6: again", x.leaves(1), STATE);
        x.joins(1);
        x.limits(1);
        x.limits(0);
        due("6: undone", x.count(9), 6);

        x = Check.told("nodes4;link0 1 2;link1 2 1;link0 2 2;link1 3 1;");
        x.joins(1);
        x.joins(3);
        x.joins(2);
        x.limits(3);
        due("6: LIMIT is not come to: a mark is taken out", x.leaves(1), 4);
        due("6: marks", x.count(5), 2);
        x.limits(1);
        due("6: COST behind REARRANGED", x.leaves(3), 2);
        due("6: a shorter way to 2", x.tree(4), 0b0100);
        due("6: no marks", x.count(5), 0);
    }

    private static void promise7Rearranges() {
        TalkTrees x = Check.told(SIX);
        due("7: of no links", x.rearranges(), STATE);
        x.joins(4);
        due("7: not cheaper", x.rearranges(), STATE);
        due("7: marks stay", x.count(5), 1);
        due("7: refused: undone", x.count(9), 2);
        x.joins(1);
        due("7: less", x.rearranges(), 1);
        due("7: tree", x.tree(4), 0b10101);
        due("7: marks", x.count(5), 0);
        due("7: undone", x.undo(), 3);
        due("7: tree as ahead of it", x.tree(4), 0b11110);
        due("7: marks as ahead of it", x.node(1, 5), 1);

        // The ways of 0 and of 3 cost the same, that of 3 has fewer links; yet 0, the lower, goes first,
        // and so 1 finds node 2 OF TREE.
        x = Check.told("nodes5;source4;link4 2 1;link2 0 1;link4 3 2;link0 3 1;link1 2 3;");
        x.joins(3);
        x.joins(0);
        x.joins(1);
        due("7: TREE", x.tree(0), 7);
        due("7: ANEW: of equal costs the lowest", x.tree(1), 6);
        due("7: less", x.rearranges(), 1);
        due("7: tree", x.tree(4), 0b11011);
    }

    private static void promise8Cuts() {
        TalkTrees x = Check.told(RING);
        due("8: cuts(4)", x.cuts(4), BAD);
        due("8: cuts(-1)", x.cuts(-1), BAD);
        x.joins(3);
        x.joins(1);
        due("8: not of TREE", x.cuts(3), 0);
        due("8: tree stays", x.tree(4), 0b0111);
        due("8: again", x.cuts(3), STATE);
        x.undo();
        due("8: of TREE, the member joins again", x.cuts(1), 0);
        due("8: by the other way", x.tree(4), 0b1001);
        due("8: down", x.link(1, 4), 1);
        due("8: marks stay", x.count(5), 2);
        due("8: undo", x.undo(), 3);
        due("8: tree as ahead of it", x.tree(4), 0b0111);
        due("8: not down", x.link(1, 4), 0);
        x.leaves(1);
        due("8: what serves nobody is pruned", x.cuts(2), 0);
        due("8: tree", x.tree(4), 0b1000);

        x = Check.told(SIX);
        x.joins(4);
        x.joins(1);
        due("8: cuts(4)", x.cuts(4), 0);
        due("8: what hangs together stays, though not the least way of 1", x.tree(4), 0b1101110);

        x = Check.told("nodes4;source3;link3 1 1;link1 0 1;link3 2 3;link2 0 3;");
        x.joins(0);
        due("8: node 0 joins again", x.cuts(1), 0);
        due("8: and 1 is pruned", x.tree(4), 0b1100);
        due("8: node 0 is lost", x.cuts(3), 1);
        due("8: and 2 is pruned", x.tree(4), 0);

        // By numbers: 1 comes by its own link, then 2 by 1; if 2 came first, 1 would come by 2.
        x = Check.told("nodes4;link0 3 1;link3 1 1;link3 2 1;link0 1 5;link0 2 5;link1 2 1;");
        x.joins(1);
        x.joins(2);
        due("8: cuts(0)", x.cuts(0), 0);
        due("8: by numbers", x.tree(4), 0b101000);
    }

    private static void promise8CutsAndLoses() {
        TalkTrees x = Check.told(CHAIN);
        x.joins(1);
        x.joins(2);
        x.joins(3);
        due("8: two are lost", x.cuts(1), 2);
        due("8: a member yet", x.node(1, 0), 1);
        due("8: lost", x.node(2, 0), 0);
        due("8: lost", x.node(3, 0), 0);
        due("8: tree", x.tree(4), 1);
        due("8: marks of the lost stay", x.node(3, 5), 2);
        due("8: the lost one left already", x.leaves(3), STATE);
        due("8: undo", x.undo(), 4);
        due("8: members again", x.count(4), 3);

        x = Check.told("nodes4;link0 1 1;link1 2 1;link2 3 1;");
        x.joins(3);
        due("8: the last link: one is lost, the rest is pruned", x.cuts(2), 1);
        due("8: tree", x.tree(4), 0);
        x.mends(2);
        due("8: joins again by hand: its mark is taken out", x.joins(3), 3);
        due("8: marks", x.count(5), 0);
    }

    private static void promise9Mends() {
        TalkTrees x = Check.told(RING);
        due("9: mends(4)", x.mends(4), BAD);
        due("9: mends(-1)", x.mends(-1), BAD);
        due("9: not down", x.mends(0), STATE);
        x.joins(1);
        x.cuts(0);
        x.cuts(2);
        x.joins(2);
        int tree = x.tree(4);
        due("9: mends(0)", x.mends(0), 1);
        due("9: tree stays", x.tree(4), tree);
        due("9: not down", x.link(0, 4), 0);
        due("9: again", x.mends(0), STATE);
        due("9: mends(2)", x.mends(2), 0);
        x.undo();
        due("9: undone", x.link(2, 4), 1);
        due("9: down", x.count(6), 1);
    }

    private static void promise10Limits() {
        TalkTrees x = Check.told("limit5;link0 1 1;");
        due("10: limits(-1)", x.limits(-1), BAD);
        due("10: limits(10)", x.limits(10), BAD);
        due("10: it is that", x.limits(5), STATE);
        due("10: what it was", x.limits(9), 5);
        due("10: count(3)", x.count(3), 9);
        due("10: what it was", x.limits(0), 9);
        x.joins(1);
        due("10: limits(1)", x.limits(1), 0);
        due("10: nothing is rearranged", x.count(5), 1);
        due("10: undo", x.undo(), 4);
        due("10: as ahead of it", x.count(3), 0);
    }

    private static void promise11Undo() {
        TalkTrees x = new TalkTrees();
        due("11: none", x.undo(), STATE);
        Check.tell(x, RING);
        x.joins(3);
        x.joins(2);
        x.leaves(3);
        x.cuts(0);
        x.mends(0);
        x.rearranges();
        x.limits(4);
        due("11: six are known", x.count(9), 6);
        due("11: limits()", x.undo(), 5);
        due("11: LIMIT", x.count(3), 0);
        due("11: rearranges()", x.undo(), 4);
        due("11: mends()", x.undo(), 3);
        due("11: DOWN", x.count(6), 1);
        due("11: cuts()", x.undo(), 2);
        due("11: DOWN", x.count(6), 0);
        due("11: leaves()", x.undo(), 1);
        due("11: MEMBERS", x.count(4), 2);
        due("11: joins()", x.undo(), 0);
        due("11: MEMBERS", x.count(4), 1);
        due("11: older ones are lost", x.undo(), STATE);
        due("11: a mark", x.node(3, 5), 0);
        x.joins(2);
        x.leaves(3);
        x.undo();
        due("11: MARKS as they were", x.node(3, 5), 0);
        due("11: in their row", x.node(2, 5), 1);
        x.undo();
        due("11: MEMBERS", x.count(4), 1);

        x = Check.told(RING);
        Check.type(x, "nodes 3;");
        x.tells();
        Check.type(x, "link");
        x.sees(0, 1);
        x.keep(0);
        due("11: tells()", x.undo(), 1);
        due("11: N", x.count(0), 4);
        due("11: LINKS", x.count(1), 4);
        due("11: a link's cost", x.link(3, 2), 9);
        due("11: THE TEXT stays", x.count(8), 4);
        due("11: SEEN stays", x.count(7), 1);
        due("11: IMAGES stay", x.back(0), 0);
        due("11: N of the image", x.count(0), 3);
    }

    private static void promise12Link() {
        TalkTrees x = Check.told("nodes5;source2;link2 1 3;link1 0 4;link3 1 5;link4 3 6;");
        x.joins(0);
        x.joins(3);
        x.cuts(3);
        int[][] dues = {{2, 1, 3, 1, 0, 2}, {1, 0, 4, 1, 0, 1}, {3, 1, 5, 1, 0, 1}, {4, 3, 6, 0, 1, 0}};
        for (int link = 0; link < dues.length; link++) {
            for (int what = 0; what < 6; what++) {
                due("12: link(" + link + ", " + what + ")", x.link(link, what), dues[link][what]);
            }
        }
        due("12: link(-1, 0)", x.link(-1, 0), BAD);
        due("12: link(4, 0)", x.link(4, 0), BAD);
        due("12: link(0, -1)", x.link(0, -1), BAD);
        due("12: link(0, 6)", x.link(0, 6), BAD);
    }

    private static void promise13Node() {
        TalkTrees x = Check.told("nodes6;source2;link2 1 3;link1 0 4;link3 1 5;link4 3 6;");
        x.joins(0);
        x.joins(3);
        int[][] dues = {
            {1, 1, 7, 0, 0, 0, 1},
            {0, 1, 3, 0, 0, NONE, 3},
            {2, 1, 0, 0, 0, NONE, 1},
            {1, 1, 8, 0, 0, 1, 1},
            {0, 0, NONE, 6, 1, NONE, 0},
            {0, 0, NONE, NONE, NONE, NONE, 0}};
        for (int node = 0; node < dues.length; node++) {
            for (int what = 0; what < 7; what++) {
                due("13: node(" + node + ", " + what + ")", x.node(node, what), dues[node][what]);
            }
        }
        due("13: node(-1, 0)", x.node(-1, 0), BAD);
        due("13: node(6, 0)", x.node(6, 0), BAD);
        due("13: node(0, -1)", x.node(0, -1), BAD);
        due("13: node(0, 7)", x.node(0, 7), BAD);
    }

    private static void promise14Way() {
        TalkTrees x = Check.told(SIX);
        due("14: of SOURCE", x.way(0, 0), NONE);
        due("14: way(5, 0)", x.way(5, 0), 5);
        due("14: way(5, 1)", x.way(5, 1), 4);
        due("14: way(5, 2)", x.way(5, 2), 3);
        due("14: way(5, 3)", x.way(5, 3), 1);
        due("14: not so many", x.way(5, 4), NONE);
        due("14: far too many", x.way(5, Integer.MAX_VALUE), NONE);
        due("14: way(5, -1)", x.way(5, -1), BAD);
        due("14: way(6, 0)", x.way(6, 0), BAD);
        due("14: way(-1, 0)", x.way(-1, 0), BAD);
        x.joins(3);
        due("14: to the tree", x.way(4, 0), 4);
        due("14: no further", x.way(4, 1), NONE);
        x.cuts(4);
        due("14: not by what is down", x.way(4, 0), 5);

        x = Check.told("nodes5;link4 1 2;link1 0 2;link4 3 2;link3 0 2;link4 0 4;");
        due("14: of equal costs the fewest links", x.way(4, 0), 4);
        x = Check.told("nodes5;link4 3 2;link3 0 2;link4 1 1;link1 0 3;");
        due("14: of as many the lower node", x.way(4, 0), 2);
        due("14: and on", x.way(4, 1), 3);
        x = Check.told("nodes6;link5 4 1;link4 3 1;link4 2 2;link3 0 2;link2 0 1;");
        due("14: where they differ first", x.way(5, 1), 2);
        x = Check.told("nodes6;link5 1 1;link1 4 1;link4 0 1;link5 3 1;link3 2 1;link2 0 1;");
        due("14: not where they differ last", x.way(5, 2), 2);
        x = Check.told("nodes3;link0 1 1;");
        due("14: no way", x.way(2, 0), NONE);
    }

    private static void promise15Tree() {
        TalkTrees x = Check.told(SIX);
        int[] empty = {0, 0, 0, 0, 0, NONE, 0};
        for (int what = 0; what < empty.length; what++) {
            due("15: tree(" + what + ")", x.tree(what), empty[what]);
        }
        x.joins(4);
        x.joins(1);
        x.joins(5);
        int[] dues = {9, 8, 8, 0b0110101, 0b0111110, 1, 0};
        for (int what = 0; what < dues.length; what++) {
            due("15: tree(" + what + ")", x.tree(what), dues[what]);
        }
        due("15: tree(-1)", x.tree(-1), BAD);
        due("15: tree(7)", x.tree(7), BAD);
        x.cuts(6);
        due("15: NEEDED, as the other way is down", x.tree(6), 0b0110000);

        x = Check.told(CHAIN);
        x.joins(2);
        x.joins(3);
        due("15: BUSIEST: of several the lowest", x.tree(5), 0);
        due("15: NEEDED", x.tree(6), 0b111);
        x = Check.told("nodes4;link1 0 1;link0 2 1;link2 3 1;");
        x.joins(3);
        x.joins(2);
        x.joins(1);
        due("15: BUSIEST: the greatest LOAD", x.tree(5), 1);
    }

    private static void promise15Least() {
        // A star at 4 costs 6; members by their least ways come to 7 or more.
        TalkTrees x = Check.told("nodes5;link0 1 3;link0 2 3;link1 2 3;link0 4 2;link1 4 2;link2 4 2;");
        x.joins(1);
        x.joins(2);
        due("15: TREE and LEAST alike", x.tree(0), 6);
        due("15: LEAST's cost", x.tree(2), 6);
        due("15: of several the least as bits", x.tree(3), 0b000011);
        x.cuts(0);
        due("15: not by what is down", x.tree(3), 0b000110);
        x = Check.told("nodes5;link0 1 5;link0 2 5;link1 2 5;link0 4 3;link1 4 3;link2 4 3;");
        x.joins(1);
        x.joins(2);
        due("15: TREE", x.tree(0), 10);
        due("15: ANEW", x.tree(1), 10);
        due("15: LEAST by a node that is no member", x.tree(2), 9);
        due("15: its links", x.tree(3), 0b111000);
        due("15: nothing is changed", x.tree(4), 0b000011);
        x = Check.told("nodes3;link1 2 2;link0 1 2;link0 2 2;");
        x.joins(1);
        x.joins(2);
        due("15: TREE, not the least as bits", x.tree(4), 0b110);
        due("15: LEAST as bits", x.tree(3), 0b011);
    }

    private static void promise16Sees() {
        TalkTrees x = new TalkTrees();
        due("16: sees(-1, 0)", x.sees(-1, 0), BAD);
        due("16: sees(2, 0)", x.sees(2, 0), BAD);
        due("16: sees(0, -1)", x.sees(0, -1), BAD);
        due("16: sees(1, 100)", x.sees(1, 100), BAD);
        due("16: sees(0, -10)", x.sees(0, -10), BAD);
        due("16: sees(0, 0)", x.sees(0, 0), 1);
        due("16: sees(1, 99)", x.sees(1, 99), 2);
        due("16: sees(0, NONE)", x.sees(0, NONE), 3);
        due("16: sees(1, NONE)", x.sees(1, NONE), 4);
        x.sees(0, 1);
        due("16: the sixth", x.sees(0, 1), 6);
        due("16: a seventh", x.sees(0, 1), FULL);
        due("16: BAD goes ahead of FULL", x.sees(2, 1), BAD);
        due("16: count(7)", x.count(7), 6);
        due("16: it can't be undone", x.count(9), 0);
    }

    private static void promise17Forget() {
        TalkTrees x = new TalkTrees();
        due("17: forget() of none", x.forget(), 0);
        x.sees(0, 1);
        x.sees(0, 2);
        due("17: forget()", x.forget(), 2);
        due("17: count(7)", x.count(7), 0);
        due("17: which(0)", x.which(0), 1);
    }

    private static void promise18Which() {
        TalkTrees x = Check.told("nodes6;link0 1 2;link1 2 2;link0 3 4;link3 4 1;");
        due("18: which(-1)", x.which(-1), BAD);
        due("18: which(2)", x.which(2), BAD);
        due("18: all but SOURCE", x.which(0), 5);
        due("18: the lowest", x.which(1), 1);
        x.sees(0, 4);
        due("18: of cost 4", x.which(0), 2);
        due("18: the lowest", x.which(1), 2);
        x.sees(1, 1);
        due("18: and of one link", x.which(0), 1);
        due("18: it", x.which(1), 3);
        x.joins(3);
        due("18: when it is asked: 3 is a member", x.which(0), 0);
        due("18: none", x.which(1), NONE);
        x.forget();
        due("18: neither SOURCE nor members", x.which(0), 4);
        x.sees(0, NONE);
        due("18: no way", x.which(1), 5);
        x.forget();
        x.sees(1, NONE);
        due("18: no way, by links", x.which(0), 1);
        x.forget();
        x.sees(0, 1);
        due("18: what joining would add now", x.which(1), 4);
        x.leaves(3);
        due("18: and now", x.which(1), NONE);
        x = Check.told("nodes3;source1;link0 1 5;");
        due("18: all but SOURCE", x.which(0), 2);
        due("18: node 0 is the lowest", x.which(1), 0);
    }

    private static void promise19And20Images() {
        TalkTrees x = Check.told(RING);
        due("19: keep(-1)", x.keep(-1), BAD);
        due("19: keep(2)", x.keep(2), BAD);
        due("20: back(-1)", x.back(-1), BAD);
        due("20: back(2)", x.back(2), BAD);
        due("20: none was kept", x.back(0), STATE);
        x.joins(3);
        x.joins(1);
        x.limits(7);
        x.cuts(3);
        due("19: keep(0)", x.keep(0), 2);
        due("19: it can't be undone", x.count(9), 5);
        due("20: none was kept in the other", x.back(1), STATE);
        due("20: refused: undone", x.count(9), 5);
        x.leaves(1);
        due("19: keep(1)", x.keep(1), 1);
        Check.tell(x, "nodes3;source1;link1 2 8;");
        Check.type(x, "abc");
        x.sees(1, 1);
        due("20: back(0)", x.back(0), 2);
        int[] counts = {4, 4, 0, 7, 2, 2, 1, 1, 3, 0};
        for (int what = 0; what < counts.length; what++) {
            due("20: count(" + what + ")", x.count(what), counts[what]);
        }
        due("20: tree", x.tree(4), 0b0111);
        due("20: a link", x.link(0, 1), 1);
        due("20: a mark", x.node(1, 5), 1);
        due("20: nothing can be undone", x.undo(), STATE);
        x.leaves(1);
        x.leaves(3);
        due("20: back(1)", x.back(1), 1);
        due("20: again", x.back(0), 2);
        due("19: over an earlier one", x.keep(1), 2);
        x.joins(2);
        due("20: back(1)", x.back(1), 2);
    }

    private static void promise21Count() {
        TalkTrees x = Check.told("nodes5;source3;limit6;link3 1 1;link1 2 1;link0 4 1;link3 4 2;");
        x.joins(1);
        x.joins(2);
        x.leaves(1);
        x.joins(4);
        x.cuts(2);
        x.sees(0, 3);
        Check.type(x, "ab");
        int[] counts = {5, 4, 3, 6, 2, 2, 1, 1, 2, 6};
        for (int what = 0; what < counts.length; what++) {
            due("21: count(" + what + ")", x.count(what), counts[what]);
        }
        due("21: count(-1)", x.count(-1), BAD);
        due("21: count(10)", x.count(10), BAD);
    }
}
