import java.util.Arrays;
import java.util.List;

/**
 * Chapter 2 of the document, promises 5 to 11: each sentence that names a bound has a method of its own here,
 * with both sides of it, nothing there, and all full.
 */
public final class TalkBoundsTest {
    private static final int BAD = Check.BAD, STATE = Check.STATE, NONE = Check.NONE;

    /** SOURCE 3 in the middle, a link of cost 1 to each of the six others: 0, 1, 2, 4, 5, 6. */
    private static final String STAR = "link3 0 1;link3 1 1;link3 2 1;link3 4 1;link3 5 1;link3 6 1;";
    private static final int[] SIX_OTHERS = {0, 1, 2, 4, 5, 6};
    /** 0-1-2-3-4-5-6, link i between i and i + 1, each of cost 9. */
    private static final String LONG = "link0 1 9;link1 2 9;link2 3 9;link3 4 9;link4 5 9;link5 6 9;";
    /** 0-1-2-3, each link of cost 2, and a dear link 3 from 3 to 0. */
    private static final String RING = "nodes4;link0 1 2;link1 2 2;link2 3 2;link3 0 9;";
    /** Joined by 4, then 1, it costs 8; anew 7. */
    private static final String DEAR = "nodes6;link0 1 4;link0 2 3;link1 3 2;link2 3 2;link3 4 1;link4 5 1;link2 5 6;";

    private static final Check check = new Check();
    private static final Twins twins = new Twins(check);

    public static void main(String[] args) {
        membersAreNodesButSource();
        treeIsNoneAtFirst();
        downIsNeverOfTree();
        waysAreOfLinksThatAreNotDown();
        waysOfNodesOfTreeHaveNoLinks();
        waysEndAtTheFirstNodeOfTree();
        waysAreOfLeastCost();
        thenOfFewestLinks();
        thenToTheLowerNode();
        thereMayBeNoWay();
        theLongestWay();
        joinedWhatIsOfTree();
        prunedAsLongAs();
        marksAreInARow();
        anewOfNobody();
        anewOfTheLowest();
        rearrangedIfOfLess();
        limitAndMarks();
        moreMarksThanLimit();
        cutOfTreeOrNot();
        cutAndLost();
        cutLeavesMarks();
        mendedLeavesTree();
        limitsAreNoughtToNine();
        sixAreKnown();
        eachIsUndoneWhole();
        whatIsNotUndone();
        textsToldAreDone();
        allOf512Calls();
        check.end();
    }

    private static void due(String what, int got, int want) {
        check.due(what, got, want);
    }

    private static void way(String what, TalkTrees x, int node, int... links) {
        due(what + ": how many", x.node(node, 4), links.length);
        for (int i = 0; i < links.length; i++) {
            due(what + ": way(" + node + ", " + i + ")", x.way(node, i), links[i]);
        }
        for (int i : new int[] {links.length, links.length + 1, 7, 8, Integer.MAX_VALUE}) {
            due(what + ": not so many: way(" + node + ", " + i + ")", x.way(node, i), NONE);
        }
    }

    /** "MEMBERS are some NODES, not SOURCE (none at first)". */
    private static void membersAreNodesButSource() {
        TalkTrees x = Check.told("nodes7;source3;" + STAR);
        due("none at first", x.count(4), 0);
        int members = 0;
        for (int node : SIX_OTHERS) {
            due("no member yet", x.node(node, 0), 0);
            due("leaves, no member yet", x.leaves(node), STATE);
            due("joins(" + node + ")", x.joins(node), ++members);
            due("how many", x.count(4), members);
            due("a member", x.node(node, 0), 1);
            due("joins again", x.joins(node), STATE);
            due("SOURCE", x.joins(3), STATE);
        }
        due("a node below 0", x.joins(-1), BAD);
        due("node N", x.joins(7), BAD);
        due("SOURCE is none", x.node(3, 0), 2);
        due("SOURCE can't leave", x.leaves(3), STATE);
        for (int node : SIX_OTHERS) {
            due("leaves(" + node + ")", x.leaves(node), --members);
            due("how many", x.count(4), members);
            due("no member", x.node(node, 0), 0);
            due("leaves again", x.leaves(node), STATE);
        }
        due("a node below 0", x.leaves(-1), BAD);
        due("node N", x.leaves(7), BAD);
    }

    /** "TREE is some LINKS (none at first); SOURCE and the NODES of these LINKS are OF TREE". */
    private static void treeIsNoneAtFirst() {
        TalkTrees x = Check.told("nodes7;source3;" + STAR);
        due("none at first", x.tree(4), 0);
        due("of no COST", x.tree(0), 0);
        due("SOURCE is OF TREE", x.node(3, 1), 1);
        for (int node : SIX_OTHERS) {
            due("others are not", x.node(node, 1), 0);
            due("without links of TREE", x.node(node, 6), 0);
            x.joins(node);
            due("it is then", x.node(node, 1), 1);
            due("with one link", x.node(node, 6), 1);
        }
        due("all links", x.tree(4), 0b111111);
        due("all at SOURCE", x.node(3, 6), 6);
    }

    /** "DOWN are some LINKS (none at first; none of TREE ever)". */
    private static void downIsNeverOfTree() {
        TalkTrees x = Check.told("nodes4;link0 1 1;link0 2 1;link0 3 1;link1 2 1;link1 3 1;link2 3 1;");
        due("none at first", x.count(6), 0);
        for (int node = 1; node < 4; node++) {
            x.joins(node);
        }
        int[] trees = {0b001110, 0b011100, 0, 0, 0, 0};
        int[] lost = {0, 0, 3, 0, 0, 0};
        for (int link = 0; link < 6; link++) {
            due("not DOWN", x.link(link, 4), 0);
            due("cuts(" + link + ")", x.cuts(link), lost[link]);
            due("TREE behind it", x.tree(4), trees[link]);
            due("DOWN", x.link(link, 4), 1);
            due("not of TREE", x.link(link, 3), 0);
            due("how many", x.count(6), link + 1);
            due("again", x.cuts(link), STATE);
        }
        for (int link = 0; link < 6; link++) {
            due("mends(" + link + ")", x.mends(link), 5 - link);
            due("again", x.mends(link), STATE);
        }
        due("cuts below 0", x.cuts(-1), BAD);
        due("cuts, the first that is none", x.cuts(6), BAD);
        due("mends below 0", x.mends(-1), BAD);
        due("mends, the first that is none", x.mends(6), BAD);
    }

    /** "LINKS that are not DOWN, one behind another". */
    private static void waysAreOfLinksThatAreNotDown() {
        TalkTrees x = Check.told("nodes3;link0 2 1;link0 1 4;link1 2 4;");
        way("by the least", x, 2, 0);
        x.cuts(0);
        way("by others", x, 2, 2, 1);
        due("their COST", x.node(2, 3), 8);
        due("joins(2)", x.joins(2), 8);
        x.leaves(2);
        x.cuts(1);
        due("none", x.node(2, 3), NONE);
        due("none", x.node(2, 4), NONE);
        due("none", x.way(2, 0), NONE);
        due("joins(2)", x.joins(2), STATE);
        x.mends(0);
        way("mended", x, 2, 0);
    }

    /** "(of one that is OF TREE: no LINKS)": SOURCE, a member, one between them. */
    private static void waysOfNodesOfTreeHaveNoLinks() {
        TalkTrees x = Check.told(RING);
        way("SOURCE", x, 0);
        due("SOURCE: COST", x.node(0, 3), 0);
        x.joins(2);
        for (int node = 0; node < 3; node++) {
            way("OF TREE", x, node);
            due("COST", x.node(node, 3), 0);
        }
    }

    /** "on to a NODE OF TREE .. OF TREE the last NODE alone". */
    private static void waysEndAtTheFirstNodeOfTree() {
        TalkTrees x = Check.told("nodes4;link0 1 5;link1 2 1;link2 3 1;");
        way("to SOURCE", x, 3, 2, 1, 0);
        due("COST", x.node(3, 3), 7);
        x.joins(1);
        way("to a member", x, 3, 2, 1);
        x.joins(2);
        way("to a nearer one", x, 3, 2);
        due("COST", x.node(3, 3), 1);
        due("joins(3)", x.joins(3), 7);
    }

    /** "of all of these the one of least COST together". */
    private static void waysAreOfLeastCost() {
        TalkTrees x = Check.told("nodes3;link0 2 5;link0 1 2;link1 2 2;");
        way("4 is less than 5", x, 2, 2, 1);
        due("COST", x.node(2, 3), 4);
        way("3 is less than 4", Check.told("nodes3;link0 2 3;link0 1 2;link1 2 2;"), 2, 0);
        way("8 by four is less than 9 by one", Check.told("nodes5;link0 4 9;link0 1 2;link1 2 2;link2 3 2;link3 4 2;"), 4, 4, 3, 2, 1);
    }

    /** "of several the one of fewest LINKS". */
    private static void thenOfFewestLinks() {
        way("one, not two", Check.told("nodes3;link0 1 2;link1 2 2;link0 2 4;"), 2, 2);
        way("two, not three by lower ones",
            Check.told("nodes5;link0 1 1;link1 2 1;link2 4 2;link0 3 2;link3 4 2;"), 4, 4, 3);
        way("five, not six by lower ones",
            Check.told("nodes7;link0 1 1;link1 2 1;link2 3 1;link3 4 1;link4 5 1;link5 6 1;link3 5 2;"), 6, 5, 6, 2, 1, 0);
    }

    /** "of several that which at the first LINK at which they differ comes to the lower NODE". */
    private static void thenToTheLowerNode() {
        way("the first link", Check.told("nodes4;link0 2 1;link2 3 1;link0 1 1;link1 3 1;"), 3, 3, 2);
        way("the second link", Check.told("nodes5;link0 2 1;link2 3 1;link0 1 1;link1 3 1;link3 4 1;"), 4, 4, 3, 2);
        way("the first counts, not the second",
            Check.told("nodes7;link6 3 1;link3 1 1;link1 0 1;link6 2 1;link2 4 1;link4 0 1;"), 6, 3, 4, 5);
        TalkTrees x = Check.told("nodes4;link0 3 1;link2 3 1;link2 0 1;");
        x.joins(3);
        way("to SOURCE, the lower one", x, 2, 2);
        x = Check.told("nodes4;source3;link0 3 1;link2 3 1;link2 0 1;");
        x.joins(0);
        way("to a member, the lower one", x, 2, 2);
    }

    /** "(There may be none.)" */
    private static void thereMayBeNoWay() {
        TalkTrees x = Check.told("nodes5;link0 1 1;link2 3 1;");
        for (int node = 2; node < 5; node++) {
            due("COST", x.node(node, 3), NONE);
            due("LINKS", x.node(node, 4), NONE);
            due("way(" + node + ", 0)", x.way(node, 0), NONE);
            due("way(" + node + ", 1)", x.way(node, 1), NONE);
            due("joins(" + node + ")", x.joins(node), STATE);
            due("not OF TREE", x.node(node, 1), 0);
        }
        due("nothing was done", x.count(9), 1);
    }

    /** As many links of as much cost as there can be, up and down the numbers. */
    private static void theLongestWay() {
        TalkTrees x = Check.told("nodes7;" + LONG);
        way("up", x, 6, 5, 4, 3, 2, 1, 0);
        due("COST", x.node(6, 3), 54);
        due("joins(6)", x.joins(6), 54);
        x = Check.told("nodes7;source6;" + LONG);
        way("down", x, 0, 0, 1, 2, 3, 4, 5);
        due("COST", x.node(0, 3), 54);
        due("joins(0)", x.joins(0), 54);
    }

    /** "JOINED .. the LINKS of its WAY are of TREE": of one that is OF TREE these are none. */
    private static void joinedWhatIsOfTree() {
        TalkTrees x = Check.told(RING);
        due("joins(3)", x.joins(3), 6);
        due("joins(1)", x.joins(1), 6);
        due("joins(2)", x.joins(2), 6);
        due("TREE", x.tree(4), 0b0111);
        due("members", x.count(4), 3);
        due("marks", x.count(5), 3);
    }

    /** "as long as a NODE OF TREE that is neither SOURCE nor a MEMBER has just one LINK of TREE ..". */
    private static void prunedAsLongAs() {
        TalkTrees x = Check.told("nodes7;" + LONG);
        x.joins(6);
        due("all six links", x.leaves(6), 0);
        due("TREE", x.tree(4), 0);
        x = Check.told("nodes7;source6;" + LONG);
        x.joins(0);
        due("all six links, from 0 on", x.leaves(0), 0);
        due("TREE", x.tree(4), 0);
        x = Check.told("nodes7;source3;" + LONG);
        x.joins(0);
        x.joins(6);
        due("not SOURCE, with its one link", x.leaves(6), 27);
        due("TREE", x.tree(4), 0b000111);
        x.joins(2);
        due("not a member", x.leaves(0), 9);
        due("TREE", x.tree(4), 0b000100);
        x = Check.told("nodes5;link0 1 1;link1 2 1;link2 3 1;link2 4 1;");
        x.joins(3);
        x.joins(4);
        x.joins(2);
        due("a node with three links stays", x.leaves(2), 4);
        due("up to a node with two links", x.leaves(4), 3);
        due("TREE", x.tree(4), 0b0111);
        due("and all", x.leaves(3), 0);
        x = Check.told("nodes3;link0 1 1;link1 2 1;");
        x.joins(1);
        x.joins(2);
        due("a node with two links stays", x.leaves(1), 2);
        due("it is OF TREE", x.node(1, 1), 1);
    }

    /** "MARKS are NODES in a row: .. a MARK at the end, or, if it has one, that is taken out." */
    private static void marksAreInARow() {
        TalkTrees x = Check.told("nodes7;source3;" + STAR);
        marks("none", x);
        for (int node : new int[] {6, 5, 4, 2, 1, 0}) {
            x.joins(node);
        }
        marks("as many as there can be", x, 6, 5, 4, 2, 1, 0);
        x.leaves(4);
        marks("from the middle", x, 6, 5, 2, 1, 0);
        x.leaves(6);
        marks("the first", x, 5, 2, 1, 0);
        x.leaves(0);
        marks("the last", x, 5, 2, 1);
        x.joins(6);
        marks("at the end again", x, 5, 2, 1, 6);
        x.leaves(1);
        x.leaves(5);
        x.leaves(2);
        marks("one", x, 6);
        x.leaves(6);
        marks("none again", x);
        x.limits(2);
        x.joins(5);
        x.joins(6);
        marks("LIMIT", x);
        x.leaves(6);
        marks("whoever LEFT, without a MARK", x, 6);
        x.joins(6);
        marks("whoever JOINED, with a MARK", x);
    }

    private static void marks(String what, TalkTrees x, int... row) {
        due(what + ": how many", x.count(5), row.length);
        int[] places = new int[7];
        Arrays.fill(places, NONE);
        for (int place = 0; place < row.length; place++) {
            places[row[place]] = place;
        }
        for (int node = 0; node < 7; node++) {
            due(what + ": the place of " + node, x.node(node, 5), places[node]);
        }
    }

    /** "ANEW: TREE without LINKS; then of MEMBERS not yet OF TREE ..": without members no links. */
    private static void anewOfNobody() {
        TalkTrees x = Check.told(RING);
        due("nobody", x.tree(1), 0);
        x.joins(1);
        x.leaves(1);
        due("nobody any more", x.tree(1), 0);
        due("rearranges()", x.rearranges(), STATE);
        x.joins(3);
        x.joins(2);
        due("2 is OF TREE by 3's way, or 3 by 2's", x.tree(1), 6);
    }

    /** "the one whose WAY is of least COST, of several the lowest .. till all are OF TREE": node 0 as others. */
    private static void anewOfTheLowest() {
        due("node 0 alone", with("source1;link0 1 7;", 0).tree(1), 7);
        due("all six", with("nodes7;source6;" + LONG, 0, 1, 2, 3, 4, 5).tree(1), 54);
        // 0 and 3 are 2 from SOURCE 4. If 0 goes first, 2 is OF TREE, and 1 is 3 from there; else 0 comes by 3.
        TalkTrees x = with("nodes5;source4;link4 2 1;link2 0 1;link4 3 2;link0 3 1;link1 2 3;", 3, 0, 1);
        due("TREE: 3 went first", x.tree(4), 0b11110);
        due("TREE", x.tree(0), 7);
        due("ANEW: 0 goes first", x.tree(1), 6);
        due("rearranges()", x.rearranges(), 1);
        due("TREE", x.tree(4), 0b11011);
        // The same with 1 for 0: 1, the lower, goes first, though 3 is told first.
        x = with("nodes5;source4;link4 3 2;link4 2 1;link2 1 1;link1 3 1;link0 2 3;", 3, 1, 0);
        due("ANEW: 1 goes first", x.tree(1), 6);
        // 3 is 1 from SOURCE, 1 is 2: the nearer goes first, though it is higher, and 1 comes by it.
        x = with("nodes4;link0 1 2;link0 3 1;link1 3 1;", 1, 3);
        due("TREE: 1 went first", x.tree(4), 0b011);
        due("ANEW: 3 goes first", x.tree(1), 2);
    }

    private static TalkTrees with(String text, int... members) {
        TalkTrees x = Check.told(text);
        for (int node : members) {
            due("joins(" + node + ") is not refused", x.joins(node) >= 0 ? 1 : 0, 1);
        }
        return x;
    }

    /** "if ANEW is of less COST than TREE .., TREE is that; MARKS are none in any case". */
    private static void rearrangedIfOfLess() {
        TalkTrees x = Check.told(DEAR);
        x.joins(4);
        x.joins(1);
        due("TREE", x.tree(0), 8);
        due("ANEW, less by 1", x.tree(1), 7);
        due("rearranges()", x.rearranges(), 1);
        due("TREE is that", x.tree(4), 0b0010101);
        due("no MARKS", x.count(5), 0);
        x.joins(3);
        due("as much: refused", x.rearranges(), STATE);
        due("MARKS stay", x.count(5), 1);
        x = Check.told("nodes3;link0 2 2;link1 2 1;link0 1 2;");
        x.joins(2);
        x.joins(1);
        due("ANEW by other links, as much", x.tree(1), 3);
        due("refused", x.rearranges(), STATE);
        due("TREE stays", x.tree(4), 0b011);
        due("MARKS stay", x.count(5), 2);
        x = Check.told("nodes3;limit2;link0 2 2;link1 2 1;link0 1 2;");
        x.joins(2);
        due("by LIMIT, as much", x.joins(1), 3);
        due("TREE stays", x.tree(4), 0b011);
        due("MARKS are none", x.count(5), 0);
    }

    /** "if LIMIT is not 0 and there are LIMIT MARKS or more". */
    private static void limitAndMarks() {
        for (int limit = 0; limit <= 9; limit++) {
            TalkTrees x = Check.told("nodes7;source3;limit" + limit + ";" + STAR);
            int joined = 0;
            for (int node : SIX_OTHERS) {
                x.joins(node);
                joined++;
                due("LIMIT " + limit + ", " + joined + " JOINED", x.count(5), limit == 0 ? joined : joined % limit);
            }
        }
        int[] costs = {8, 7, 7, 8};
        for (int limit = 0; limit < 4; limit++) {
            TalkTrees x = Check.told(DEAR + "limit" + limit + ";");
            due("LIMIT " + limit, x.joins(4), 6);
            due("LIMIT " + limit, x.joins(1), costs[limit]);
        }
    }

    /** "LIMIT MARKS or more", when a MARK is taken out; nothing by limits() itself. */
    private static void moreMarksThanLimit() {
        int[] dues = {2, 0, 0, 2};
        for (int limit = 0; limit < 4; limit++) {
            TalkTrees x = Check.told(RING);
            for (int node = 1; node < 4; node++) {
                x.joins(node);
            }
            if (limit > 0) {
                due("limits(" + limit + ")", x.limits(limit), 0);
            }
            due("nothing by limits()", x.count(5), 3);
            x.leaves(3);
            due("LIMIT " + limit + ", one of three taken out", x.count(5), dues[limit]);
        }
    }

    /** "If it was of TREE: TREE is those of its other LINKS that hang together with SOURCE by such ..". */
    private static void cutOfTreeOrNot() {
        TalkTrees x = Check.told(RING);
        x.joins(1);
        x.joins(2);
        x.joins(3);
        due("not of TREE", x.cuts(3), 0);
        due("TREE stays", x.tree(4), 0b0111);
        x.undo();
        due("of TREE", x.cuts(1), 0);
        due("what hangs with SOURCE, then 2 by 3, 3 by that", x.tree(4), 0b1101);
        due("COST", x.tree(0), 13);
        x.undo();
        due("the first link", x.cuts(0), 0);
        due("1 by 2 and 3", x.tree(4), 0b1110);
        x.undo();
        due("the last link", x.cuts(2), 0);
        due("3 by its own", x.tree(4), 0b1011);
        x = Check.told(RING);
        due("of no members", x.cuts(0), 0);
        due("TREE", x.tree(4), 0);
    }

    /** "or are LOST (no MEMBERS any more), if there is none": nobody, one, some, all six. */
    private static void cutAndLost() {
        for (int link = 0; link < 6; link++) {
            TalkTrees x = Check.told("nodes7;" + LONG);
            for (int node = 1; node < 7; node++) {
                x.joins(node);
            }
            due("cuts(" + link + ")", x.cuts(link), 6 - link);
            due("MEMBERS yet", x.count(4), link);
            due("TREE", x.tree(4), (1 << link) - 1);
            for (int node = 1; node < 7; node++) {
                due("LOST or not", x.node(node, 0), node <= link ? 1 : 0);
            }
            due("MARKS stay", x.count(5), 6);
            due("LOST, it can't leave", x.leaves(link + 1), STATE);
            due("LOST, it has no WAY", x.joins(link + 1), STATE);
        }
        TalkTrees x = Check.told("nodes7;" + LONG);
        x.joins(6);
        due("LOST, and all that served it is pruned", x.cuts(5), 1);
        due("TREE", x.tree(4), 0);
    }

    /** "(MARKS stay.)": of the LOST, too; and nothing is REARRANGED. */
    private static void cutLeavesMarks() {
        TalkTrees x = Check.told(DEAR);
        x.joins(4);
        x.joins(1);
        x.limits(1);
        due("not of TREE", x.cuts(6), 0);
        due("TREE stays, though ANEW is cheaper", x.tree(4), 0b0011110);
        due("MARKS stay, though LIMIT is 1", x.count(5), 2);
        due("of TREE: 4 is lost", x.cuts(4), 1);
        due("not REARRANGED, though ANEW is cheaper", x.tree(4), 0b0001110);
        due("ANEW", x.tree(1), 4);
        due("MARKS stay", x.count(5), 2);
        due("of the LOST, too", x.node(4, 5), 0);
        x.limits(0);
        x.mends(4);
        x.joins(4);
        due("JOINED again: its MARK is taken out", x.node(4, 5), NONE);
        due("the other's moves on", x.node(1, 5), 0);
    }

    /** "MENDED: a LINK is not DOWN any more (TREE stays)". */
    private static void mendedLeavesTree() {
        TalkTrees x = Check.told(RING + "limit1;");
        x.joins(1);
        x.cuts(0);
        due("by the long way", x.tree(4), 0b1110);
        due("mends(0)", x.mends(0), 0);
        due("TREE stays", x.tree(4), 0b1110);
        due("though ANEW is cheaper", x.tree(1), 2);
        x = Check.told("link0 1 1;");
        x.joins(1);
        due("LOST", x.cuts(0), 1);
        due("mends(0)", x.mends(0), 0);
        due("the LOST don't come back", x.count(4), 0);
        due("nor TREE", x.tree(4), 0);
    }

    /** "LIMIT is n (0 .. 9): what it was. BAD; STATE: it is that." */
    private static void limitsAreNoughtToNine() {
        TalkTrees x = new TalkTrees();
        due("it is 0 at first", x.limits(0), STATE);
        for (int n = 1; n <= 9; n++) {
            due("limits(" + n + ")", x.limits(n), n - 1);
            due("it is that", x.limits(n), STATE);
            due("count(3)", x.count(3), n);
        }
        due("limits(10)", x.limits(10), BAD);
        due("limits(-1)", x.limits(-1), BAD);
        due("limits(-9)", x.limits(NONE), BAD);
        due("limits(0)", x.limits(0), 9);
    }

    /** "(6 are known, older ones are lost)"; "how many more may be. STATE: none". */
    private static void sixAreKnown() {
        for (int done = 0; done <= 9; done++) {
            TalkTrees x = new TalkTrees();
            for (int n = 1; n <= done; n++) {
                x.limits(n);
                due("known of " + n, x.count(9), Math.min(n, 6));
            }
            int known = Math.min(done, 6);
            for (int k = 1; k <= known; k++) {
                due("undo of " + done, x.undo(), known - k);
                due("LIMIT", x.count(3), done - k);
            }
            due("none any more", x.undo(), STATE);
            due("LIMIT", x.count(3), done - known);
        }
        TalkTrees x = new TalkTrees();
        for (int n = 1; n <= 6; n++) {
            x.limits(n);
        }
        x.undo();
        x.undo();
        for (int n = 7; n <= 9; n++) {
            x.limits(n);
        }
        int[] limits = {8, 7, 4, 3, 2, 1};
        for (int k = 0; k < 6; k++) {
            due("undo() behind undone ones", x.undo(), 5 - k);
            due("LIMIT", x.count(3), limits[k]);
        }
        due("none any more", x.undo(), STATE);
    }

    /** "all that 1 and 2 tell but THE TEXT is as ahead of it". */
    private static void eachIsUndoneWhole() {
        List<Call> ahead = Call.joined(Call.run("text " + DEAR, "tells", "cuts 6", "joins 4", "joins 1"),
            Call.run("keep 0", "sees 1 0", "text limit 3;"));
        for (String done : List.of("joins 5", "joins 3", "leaves 4", "leaves 1", "rearranges", "cuts 0", "cuts 1",
                "cuts 4", "mends 6", "limits 9")) {
            due(done + " is not refused", Call.run(done).get(0).on(Twins.made(ahead)) >= 0 ? 1 : 0, 1);
            twins.same("behind " + done + ", undo", ahead, Call.run(done, "undo"));
        }
        twins.same("REARRANGED by LIMIT, too", ahead, Call.run("limits 1", "joins 5", "undo", "undo"));
        twins.alike("a text told, but for THE TEXT", Call.joined(ahead, Call.run("clear")), Call.joined(ahead, Call.run("tells", "undo")));
        twins.same("a text typed behind it", Call.joined(ahead, Call.run("clear", "text abc")),
            Call.run("clear", "limits 4", "text abc", "undo"));
    }

    /** What is no tells(), joins(), leaves(), rearranges(), cuts(), mends(), limits(), or was refused. */
    private static void whatIsNotUndone() {
        List<Call> ahead = Call.run("text " + RING, "tells", "joins 3", "cuts 3");
        TalkTrees x = Twins.made(ahead);
        for (Call call : Call.run("text nodes 3;", "clear", "sees 0 1", "forget", "keep 0", "keep 1", "joins 3", "joins 0",
                "joins 4", "leaves 1", "leaves 4", "rearranges", "cuts 3", "cuts 4", "mends 0", "mends 4", "limits 0",
                "limits 10", "text x", "tells", "back 2")) {
            call.on(x);
            due("behind " + call, x.count(9), 3);
        }
        due("undo() of cuts(3)", x.undo(), 2);
        due("not DOWN", x.link(3, 4), 0);
        due("SEEN stays", x.sees(0, 1), 1);
        due("undo() of joins(3)", x.undo(), 1);
        due("SEEN stays", x.count(7), 1);
        due("THE TEXT stays", x.count(8), 1);
        due("undo() of tells()", x.undo(), 0);
        due("IMAGES stay", x.back(0), 1);
        due("none behind back()", x.undo(), STATE);
    }

    /** "a text told (no MEMBERS, TREE, DOWN, MARKS then)". */
    private static void textsToldAreDone() {
        TalkTrees x = Check.told(RING);
        x.joins(3);
        x.joins(2);
        x.cuts(0);
        due("the same text", Check.tell(x, RING), 5);
        due("MEMBERS", x.count(4), 0);
        due("TREE", x.tree(4), 0);
        due("DOWN", x.count(6), 0);
        due("MARKS", x.count(5), 0);
        for (int node = 0; node < 4; node++) {
            due("no MARK", x.node(node, 5), NONE);
            due("no MEMBER", x.node(node, 0), node == 0 ? 2 : 0);
        }
        due("known", x.count(9), 5);
    }

    /** "An object is used for at most 512 calls": the 512th answers as the others. */
    private static void allOf512Calls() {
        TalkTrees x = new TalkTrees();
        String text = "nodes7;source3;" + STAR;
        Check.type(x, text);
        due("tells()", x.tells(), 8);
        int calls = text.length() + 1;
        for (int round = 0; calls < 512; round++) {
            int node = SIX_OTHERS[round % 6];
            boolean comes = round / 6 % 2 == 0;
            int members = comes ? round % 6 + 1 : 5 - round % 6;
            due("call " + ++calls, comes ? x.joins(node) : x.leaves(node), members);
        }
        due("calls", calls, 512);
    }
}
