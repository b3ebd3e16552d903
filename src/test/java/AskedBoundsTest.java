import java.util.List;

/**
 * Chapter 3 of the document, promises 12 to 21: each sentence that names a bound has a method of its own here,
 * with both sides of it, nothing there, and all full.
 */
public final class AskedBoundsTest {
    private static final int BAD = Check.BAD, STATE = Check.STATE, FULL = Check.FULL, NONE = Check.NONE;

    /** 0-1-2-3-4-5-6, link i between i and i + 1, each of cost 9. */
    private static final String LONG = "link0 1 9;link1 2 9;link2 3 9;link3 4 9;link4 5 9;link5 6 9;";
    /** SOURCE 3 in the middle, a link of cost 1 to each of the six others. */
    private static final String STAR = "nodes7;source3;link3 0 1;link3 1 1;link3 2 1;link3 4 1;link3 5 1;link3 6 1;";
    /** 0-1-2-3, each link of cost 2, and a dear link 3 from 3 to 0. */
    private static final String RING = "nodes4;link0 1 2;link1 2 2;link2 3 2;link3 0 9;";

    private static final Check check = new Check();
    private static final Twins twins = new Twins(check);

    public static void main(String[] args) {
        leastOfNobodyAndOfAll();
        leastAsBits();
        leastWithoutWhatIsDown();
        leastByOthers();
        loadsOfNobodyToAll();
        busiestOfSeveral();
        farOfTree();
        neededOrNot();
        linksAndTheirNumbers();
        nodesAndTheirNumbers();
        waysAndTheirNumbers();
        seenAtMostSix();
        seenNumbers();
        forgetsAnyNumber();
        whichOfNothingSeen();
        whichIsNeitherSourceNorMember();
        whichOfAllThatWasSeen();
        whichWithoutWay();
        whichWhenItIsAsked();
        imagesAreTwo();
        imagesOfAnything();
        imagesKeepNothingElse();
        imagesStay();
        nothingUndoneBehindBack();
        countsFromNoneToAll();
        check.end();
    }

    private static void due(String what, int got, int want) {
        check.due(what, got, want);
    }

    private static TalkTrees with(String text, int... members) {
        TalkTrees x = Check.told(text);
        for (int node : members) {
            due("joins(" + node + ") is not refused", x.joins(node) >= 0 ? 1 : 0, 1);
        }
        return x;
    }

    private static void least(String what, TalkTrees x, int cost, int bits) {
        due("LEAST, " + what + ": COST", x.tree(2), cost);
        due("LEAST, " + what + ": bits", x.tree(3), bits);
    }

    /** "by which SOURCE and all MEMBERS hang together". */
    private static void leastOfNobodyAndOfAll() {
        least("a new object", new TalkTrees(), 0, 0);
        least("nobody", with(RING), 0, 0);
        TalkTrees x = with(RING, 1);
        least("one", x, 2, 0b0001);
        x.leaves(1);
        least("nobody any more", x, 0, 0);
        least("one by one link of two", with(RING, 3), 6, 0b0111);
        least("all, as dear as can be", with("nodes7;" + LONG, 1, 2, 3, 4, 5, 6), 54, 0b111111);
        least("the last alone", with("nodes7;" + LONG, 6), 54, 0b111111);
        least("the star", with(STAR, 0, 1, 2, 4, 5, 6), 6, 0b111111);
        least("two of the star", with(STAR, 6, 0), 2, 0b100001);
    }

    /** "that of least COST, of several the least as bits". */
    private static void leastAsBits() {
        TalkTrees x = with("nodes3;link1 2 2;link0 1 2;link0 2 2;", 1, 2);
        due("TREE has other links", x.tree(4), 0b110);
        least("of three sets", x, 4, 0b011);
        x = with("nodes3;link0 1 2;link1 2 2;link0 2 4;", 2);
        due("TREE has fewest links", x.tree(4), 0b100);
        least("two low links, not a high one", x, 4, 0b011);
        least("one low link, not two high ones", with("nodes3;link0 2 4;link0 1 2;link1 2 2;", 2), 4, 0b001);
        least("the highest counts first", with("nodes5;link0 1 1;link1 4 3;link0 2 2;link2 4 2;", 4), 4, 0b0011);
        least("less by 1, though higher", with("nodes3;link0 1 2;link1 2 2;link0 2 3;", 2), 3, 0b100);
    }

    /** "of all sets of LINKS that are not DOWN". */
    private static void leastWithoutWhatIsDown() {
        TalkTrees x = with("nodes3;link0 1 1;link1 2 1;link0 2 9;", 2);
        least("all up", x, 2, 0b011);
        x.cuts(0);
        least("one is DOWN", x, 9, 0b100);
        x.cuts(2);
        least("nobody is left", x, 0, 0);
        x.mends(0);
        least("the LOST don't come back", x, 0, 0);
        x.joins(2);
        least("again", x, 2, 0b011);
    }

    /** Some sets have nodes that are neither SOURCE nor MEMBERS, and no way of building has them. */
    private static void leastByOthers() {
        TalkTrees x = with("nodes5;link0 1 5;link0 2 5;link1 2 5;link0 4 3;link1 4 3;link2 4 3;", 1, 2);
        due("TREE", x.tree(0), 10);
        due("ANEW", x.tree(1), 10);
        least("less by 1", x, 9, 0b111000);
        due("nothing is changed", x.tree(4), 0b000011);
        x = with("nodes5;link0 1 6;link0 2 6;link1 2 6;link0 4 4;link1 4 4;link2 4 4;", 1, 2);
        least("as much: the least as bits", x, 12, 0b000011);
        x = with("nodes5;source2;link2 0 5;link2 1 5;link0 1 5;link2 4 3;link0 4 3;link1 4 3;", 0, 1);
        due("TREE", x.tree(4), 0b000101);
        least("from another SOURCE", x, 9, 0b111000);
    }

    /** "LOAD of a LINK: how many MEMBERS come to SOURCE over it by LINKS of TREE." */
    private static void loadsOfNobodyToAll() {
        TalkTrees x = with("nodes7;" + LONG);
        for (int link = 0; link < 6; link++) {
            due("not of TREE", x.link(link, 5), 0);
        }
        x = with("nodes7;" + LONG, 1, 2, 3, 4, 5, 6);
        for (int link = 0; link < 6; link++) {
            due("LOAD", x.link(link, 5), 6 - link);
        }
        x = with("nodes7;source6;" + LONG, 0, 1, 2, 3, 4, 5);
        for (int link = 0; link < 6; link++) {
            due("LOAD", x.link(link, 5), link + 1);
        }
        x = with(RING, 3);
        due("who is no member doesn't count", x.link(0, 5), 1);
        due("not of TREE", x.link(3, 5), 0);
        x.cuts(3);
        due("DOWN", x.link(3, 5), 0);
    }

    /** "BUSIEST: the LINK of the greatest LOAD, of several the lowest; NONE (no LINKS of TREE)". */
    private static void busiestOfSeveral() {
        due("a new object", new TalkTrees().tree(5), NONE);
        TalkTrees x = with(STAR);
        due("no LINKS of TREE", x.tree(5), NONE);
        x.joins(6);
        due("the one", x.tree(5), 5);
        x.joins(4);
        due("the lower of two", x.tree(5), 3);
        x.joins(0);
        due("the lowest of three", x.tree(5), 0);
        x.leaves(0);
        x.leaves(4);
        x.leaves(6);
        due("none again", x.tree(5), NONE);
        due("the greatest LOAD, the lowest link", with("nodes7;" + LONG, 1, 2, 3, 4, 5, 6).tree(5), 0);
        due("the greatest LOAD, the highest link", with("nodes7;source6;" + LONG, 0, 1, 2, 3, 4, 5).tree(5), 5);
        due("of several on one way", with("nodes7;source6;" + LONG, 0).tree(5), 0);
    }

    /** "FAR of a NODE OF TREE: COST of the LINKS of TREE by which it comes to SOURCE" (NONE: not OF TREE). */
    private static void farOfTree() {
        TalkTrees x = with("nodes7;" + LONG);
        due("SOURCE", x.node(0, 2), 0);
        for (int node = 1; node < 7; node++) {
            due("not OF TREE", x.node(node, 2), NONE);
        }
        x.joins(5);
        for (int node = 0; node < 6; node++) {
            due("FAR", x.node(node, 2), 9 * node);
        }
        due("not OF TREE", x.node(6, 2), NONE);
        x.joins(6);
        due("as far as can be", x.node(6, 2), 54);
        x = with(RING, 1);
        x.cuts(0);
        x.mends(0);
        int[] far = {0, 13, 11, 9};
        for (int node = 0; node < 4; node++) {
            due("by LINKS of TREE, though a shorter one is up", x.node(node, 2), far[node]);
        }
    }

    /** "NEEDED: LINKS of TREE by which, CUT now, somebody would be LOST." */
    private static void neededOrNot() {
        due("a new object", new TalkTrees().tree(6), 0);
        due("no LINKS of TREE", with("nodes7;" + LONG).tree(6), 0);
        due("all six", with("nodes7;" + LONG, 6).tree(6), 0b111111);
        due("those of TREE alone", with("nodes7;" + LONG, 3).tree(6), 0b000111);
        TalkTrees x = with(RING, 1, 3);
        due("none: there are other ways", x.tree(6), 0);
        x.cuts(3);
        due("all: there are none", x.tree(6), 0b0111);
        x.mends(3);
        due("none again", x.tree(6), 0);
        due("some", with("nodes4;link0 1 1;link1 2 1;link2 3 1;link1 3 5;", 3).tree(6), 0b0001);
        due("nobody is lost by asking", with("nodes7;" + LONG, 3).count(4), 1);
    }

    /** Promise 12: each LINK, each what, and those beside them. */
    private static void linksAndTheirNumbers() {
        TalkTrees x = with("nodes3;link2 0 9;link1 2 1;link0 1 5;", 2);
        x.cuts(0);
        int[][] dues = {{2, 0, 9, 0, 1, 0}, {1, 2, 1, 1, 0, 1}, {0, 1, 5, 1, 0, 1}};
        for (int link = -1; link <= 3; link++) {
            for (int what = -1; what <= 6; what++) {
                boolean bad = link < 0 || link > 2 || what < 0 || what > 5;
                due("link(" + link + ", " + what + ")", x.link(link, what), bad ? BAD : dues[link][what]);
            }
        }
    }

    /** Promise 13: each NODE, each what, and those beside them. */
    private static void nodesAndTheirNumbers() {
        TalkTrees x = with("nodes4;source1;link2 0 9;link1 2 1;", 0);
        int[][] dues = {{1, 1, 10, 0, 0, 0, 1}, {2, 1, 0, 0, 0, NONE, 1}, {0, 1, 1, 0, 0, NONE, 2},
            {0, 0, NONE, NONE, NONE, NONE, 0}};
        for (int node = -1; node <= 4; node++) {
            for (int what = -1; what <= 7; what++) {
                boolean bad = node < 0 || node > 3 || what < 0 || what > 6;
                due("node(" + node + ", " + what + ")", x.node(node, what), bad ? BAD : dues[node][what]);
            }
        }
    }

    /** Promise 14: "The i-th LINK (0 on) .. NONE: not so many, no WAY. BAD (i below 0)." */
    private static void waysAndTheirNumbers() {
        TalkTrees x = with("nodes4;link0 1 1;link1 2 1;");
        int[][] ways = {{}, {0}, {1, 0}, {}};
        for (int node = -1; node <= 4; node++) {
            for (int i : new int[] {Integer.MIN_VALUE, -1, 0, 1, 2, 3, 7, 32, Integer.MAX_VALUE}) {
                boolean bad = node < 0 || node > 3 || i < 0;
                int due = bad ? BAD : i < ways[node].length ? ways[node][i] : NONE;
                due("way(" + node + ", " + i + ")", x.way(node, i), due);
            }
        }
    }

    /** "SEEN (6 at most)"; "FULL: 6". */
    private static void seenAtMostSix() {
        TalkTrees x = new TalkTrees();
        for (int much = 1; much <= 6; much++) {
            due("sees", x.sees(much % 2, much), much);
            due("count(7)", x.count(7), much);
        }
        due("a seventh", x.sees(0, 1), FULL);
        due("the same again", x.sees(1, 1), FULL);
        due("count(7)", x.count(7), 6);
        due("BAD first", x.sees(0, 100), BAD);
        due("forget()", x.forget(), 6);
        due("the first again", x.sees(0, 1), 1);
    }

    /** "SEEN (what 0, 1; n 0 .. 99, NONE)". */
    private static void seenNumbers() {
        for (int what = -2; what <= 3; what++) {
            for (int n = -12; n <= 102; n++) {
                boolean right = (what == 0 || what == 1) && (n == NONE || (n >= 0 && n <= 99));
                TalkTrees x = new TalkTrees();
                due("sees(" + what + ", " + n + ")", x.sees(what, n), right ? 1 : BAD);
                due("count(7)", x.count(7), right ? 1 : 0);
            }
        }
    }

    /** "Nothing is SEEN: how much was." */
    private static void forgetsAnyNumber() {
        TalkTrees x = with(RING);
        for (int much = 0; much <= 6; much++) {
            for (int k = 0; k < much; k++) {
                x.sees(0, 99);
            }
            due("forget()", x.forget(), much);
            due("none then", x.forget(), 0);
            due("all fit", x.which(0), 3);
        }
    }

    private static void which(String what, TalkTrees x, int many, int lowest) {
        due(what + ": how many", x.which(0), many);
        due(what + ": the lowest", x.which(1), lowest);
    }

    /** "NODES by which all that was SEEN is so": with nothing SEEN each that is neither SOURCE nor a MEMBER. */
    private static void whichOfNothingSeen() {
        which("a new object", new TalkTrees(), 1, 1);
        TalkTrees x = with(STAR);
        which("six", x, 6, 0);
        int left = 6;
        for (int node : new int[] {0, 1, 2, 4, 5, 6}) {
            x.joins(node);
            left--;
            which("without " + node, x, left, left == 0 ? NONE : node == 2 ? 4 : node + 1);
        }
        due("which(-1)", x.which(-1), BAD);
        due("which(2)", x.which(2), BAD);
    }

    /** "an unknown NODE, neither SOURCE nor a MEMBER", though their WAYS are of COST 0, too. */
    private static void whichIsNeitherSourceNorMember() {
        TalkTrees x = with("nodes4;link0 1 1;link1 2 1;");
        x.sees(0, 0);
        which("not SOURCE", x, 0, NONE);
        x.joins(2);
        which("not the member, but who is between", x, 1, 1);
        x.forget();
        x.sees(1, 0);
        which("by links", x, 1, 1);
        x.joins(1);
        which("nobody is between", x, 0, NONE);
    }

    /** "all that was SEEN is so": of COST n, of n LINKS, the first and the sixth, too. */
    private static void whichOfAllThatWasSeen() {
        TalkTrees x = with("nodes7;" + LONG);
        for (int node = 1; node < 7; node++) {
            x.forget();
            x.sees(0, 9 * node);
            which("of its COST", x, 1, node);
            x.sees(1, node);
            which("and of its LINKS", x, 1, node);
            x.sees(1, node - 1);
            which("not of one less", x, 0, NONE);
        }
        for (int n : new int[] {53, 55, 99}) {
            x.forget();
            x.sees(0, n);
            which("nobody's COST", x, 0, NONE);
        }
        for (int wrong = 0; wrong < 6; wrong++) {
            x.forget();
            for (int k = 0; k < 6; k++) {
                x.sees(1, k == wrong ? 2 : 3);
            }
            which("one of six is not so", x, 0, NONE);
        }
        x = with("nodes5;link0 1 4;link0 2 2;link2 3 2;link0 4 4;");
        x.sees(0, 4);
        which("three of COST 4", x, 3, 1);
        x.sees(1, 1);
        which("two of one LINK", x, 2, 1);
        x.joins(1);
        which("one", x, 1, 4);
        x.joins(4);
        which("none", x, 0, NONE);
    }

    /** "n may be NONE: it has none". */
    private static void whichWithoutWay() {
        for (int what = 0; what <= 1; what++) {
            TalkTrees x = with("nodes5;link0 1 1;link3 4 1;");
            x.sees(what, NONE);
            which("without WAY", x, 3, 2);
            x.cuts(0);
            which("one more", x, 4, 1);
            x.mends(0);
            x.sees(1 - what, NONE);
            which("both", x, 3, 2);
            x.sees(what, 0);
            which("none and 0", x, 0, NONE);
            x = with("link0 1 1;");
            x.sees(what, NONE);
            which("nobody is without WAY", x, 0, NONE);
        }
    }

    /** "has a WAY NOW ..", "(when it is asked)". */
    private static void whichWhenItIsAsked() {
        TalkTrees x = with("nodes4;link0 1 2;link1 2 2;link2 3 2;");
        x.sees(0, 2);
        which("at first", x, 1, 1);
        x.keep(0);
        x.joins(1);
        which("behind joins()", x, 1, 2);
        x.joins(2);
        which("behind joins()", x, 1, 3);
        x.cuts(2);
        which("behind cuts()", x, 0, NONE);
        x.mends(2);
        which("behind mends()", x, 1, 3);
        x.leaves(2);
        which("behind leaves()", x, 1, 2);
        x.undo();
        which("behind undo()", x, 1, 3);
        x.back(0);
        which("behind back()", x, 1, 1);
        Check.tell(x, "source1;link0 1 2;");
        which("behind tells()", x, 1, 0);
        Check.tell(x, "");
        which("behind tells() of nothing", x, 0, NONE);
    }

    /** "IMAGES 0, 1"; "BAD; STATE: none was kept". */
    private static void imagesAreTwo() {
        for (int image = 0; image <= 1; image++) {
            TalkTrees x = with(RING, 1, 2);
            due("none was kept", x.back(0), STATE);
            due("none was kept", x.back(1), STATE);
            due("keep(" + image + ")", x.keep(image), 2);
            due("the other was not kept", x.back(1 - image), STATE);
            x.joins(3);
            due("keep the other", x.keep(1 - image), 3);
            x.leaves(1);
            due("back(" + image + ")", x.back(image), 2);
            due("3 is no member", x.node(3, 0), 0);
            due("back to the other", x.back(1 - image), 3);
            due("3 is a member", x.node(3, 0), 1);
            for (int wrong : new int[] {-1, 2, 3, NONE, 32}) {
                due("keep(" + wrong + ")", x.keep(wrong), BAD);
                due("back(" + wrong + ")", x.back(wrong), BAD);
            }
        }
    }

    /** "how many MEMBERS": none of a new object, all six. */
    private static void imagesOfAnything() {
        TalkTrees x = new TalkTrees();
        due("keep(0) of a new object", x.keep(0), 0);
        Check.tell(x, STAR);
        for (int node : new int[] {0, 1, 2, 4, 5, 6}) {
            x.joins(node);
        }
        due("keep(1) of all", x.keep(1), 6);
        due("back(0)", x.back(0), 0);
        due("N", x.count(0), 2);
        due("LINKS", x.count(1), 0);
        due("there is no link 0", x.link(0, 0), BAD);
        due("back(1)", x.back(1), 6);
        due("N", x.count(0), 7);
        due("LINKS", x.count(1), 6);
        due("MARKS", x.count(5), 6);
        due("TREE", x.tree(4), 0b111111);
    }

    /** "keep all that 1 and 2 tell but THE TEXT; nothing else". */
    private static void imagesKeepNothingElse() {
        TalkTrees x = with(RING, 1);
        Check.type(x, "ab");
        x.sees(0, 1);
        x.keep(0);
        Check.type(x, "c");
        x.sees(0, 1);
        x.keep(1);
        x.joins(3);
        x.back(0);
        due("THE TEXT stays", x.count(8), 3);
        due("SEEN stays", x.count(7), 2);
        x.clear();
        x.forget();
        x.back(0);
        due("THE TEXT stays empty", x.count(8), 0);
        due("nothing is SEEN yet", x.count(7), 0);
        due("the other image stays", x.back(1), 1);
    }

    /** What is done behind keep() changes no image, nor does what is done behind back(). */
    private static void imagesStay() {
        List<Call> ahead = Call.run("text " + RING + "limit4;", "tells", "joins 3", "cuts 1", "keep 1", "joins 2", "keep 0");
        List<Call> changes = Call.run("limits 9", "leaves 3", "mends 1", "cuts 0", "joins 1", "undo", "cuts 2", "rearranges",
            "text nodes7;source3;limit2;link3 5 7;link0 6 8;", "tells", "joins 5", "sees 2 0", "undo");
        for (String back : List.of("back 0", "back 1")) {
            List<Call> once = Call.joined(ahead, Call.run(back));
            twins.alike("what is done behind keep(), then " + back, once, Call.joined(ahead, changes, Call.run(back)));
            twins.alike("what is done behind " + back, once, Call.joined(once, changes, Call.run(back)));
            twins.alike(back + " twice", once, Call.joined(once, Call.run(back)));
        }
        List<Call> over = Call.joined(ahead, Call.run("limits 1", "keep 1", "back 1"));
        check.due("a later keep() is what counts", Twins.made(over).count(3), 1);
        check.due("the other stays", Twins.made(Call.joined(over, Call.run("back 0"))).count(3), 4);
    }

    /** "(nothing can be UNDONE behind back())". */
    private static void nothingUndoneBehindBack() {
        TalkTrees x = with(RING, 1, 2, 3);
        x.keep(0);
        due("keep() leaves it", x.count(9), 4);
        due("refused", x.back(1), STATE);
        due("refused: it stays", x.count(9), 4);
        due("back(0)", x.back(0), 3);
        due("none", x.count(9), 0);
        due("undo()", x.undo(), STATE);
        for (int n = 1; n <= 7; n++) {
            x.limits(n);
            due("what is done then", x.count(9), Math.min(n, 6));
        }
        for (int n = 5; n >= 0; n--) {
            due("undo()", x.undo(), n);
        }
        due("LIMIT", x.count(3), 1);
        due("none any more", x.undo(), STATE);
    }

    /** Promise 21: each count at its least and at its most. */
    private static void countsFromNoneToAll() {
        TalkTrees x = new TalkTrees();
        int[] none = {2, 0, 0, 0, 0, 0, 0, 0, 0, 0};
        for (int what = 0; what < 10; what++) {
            due("none: count(" + what + ")", x.count(what), none[what]);
        }
        String star = "nodes7;source6;limit9;link6 0 1;link6 1 1;link6 2 1;link6 3 1;link6 4 1;link6 5 1;link0 1 1;link0 2 1;";
        x = with(star, 5, 4, 3, 2, 1, 0);
        x.cuts(6);
        x.cuts(7);
        for (int k = 0; k < 6; k++) {
            x.sees(0, 0);
        }
        Check.type(x, "x".repeat(120));
        int[] all = {7, 8, 6, 9, 6, 6, 2, 6, 120, 6};
        for (int what = 0; what < 10; what++) {
            due("all: count(" + what + ")", x.count(what), all[what]);
        }
        for (int link = 0; link < 6; link++) {
            due("cuts(" + link + ")", x.cuts(link), 1);
        }
        due("all are DOWN", x.count(6), 8);
        due("nobody is left", x.count(4), 0);
        due("MARKS stay", x.count(5), 6);
        due("count(-1)", x.count(-1), BAD);
        due("count(10)", x.count(10), BAD);
    }
}
