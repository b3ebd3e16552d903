import java.util.List;

/**
 * Chapter 1 of the document, promises 1 to 4: each sentence that names a bound has a method of its own here,
 * with the last that is as told and the first that is not. Behind each fault nothing has changed.
 */
public final class TextBoundsTest {
    private static final int BAD = Check.BAD, FULL = Check.FULL;

    /** What is there ahead of each fault: nothing of it may change. */
    private static final List<Call> AHEAD = Call.run("text nodes4;limit5;source3;link0 1 2;link3 0 9;", "tells",
        "joins 0", "joins 1", "keep 1", "leaves 0", "cuts 1", "mends 1", "sees 0 0");

    private static final Check check = new Check();
    private static final Twins twins = new Twins(check);

    public static void main(String[] args) {
        newObject();
        nodesAreTwoToSeven();
        nodesAreBelowN();
        linksHaveNumbers();
        linksAreBetweenUnlikeNodes();
        costsAreOneToNine();
        linksAreBetweenOtherNodes();
        sourceIsANode();
        limitIsNoughtToNine();
        lettersAreNoughtTo255();
        lettersAre120AtMost();
        clearsAnyNumber();
        blanksMayStandAnywhere();
        blanksAreNeededBetweenFigures();
        itemsMayBeNone();
        whatIsNotToldIsAsAtFirst();
        itemsEndBySemicolon();
        nodesStandAheadOfAll();
        sourceStandsOnce();
        limitToldAgain();
        linksFollow();
        wordsAreRowsOfSmallLetters();
        figuresStandAlone();
        otherLettersAreTokens();
        textsThatEndTooEarly();
        theFirstFaultCounts();
        everyLetterEverywhere();
        check.end();
    }

    private static void fault(String text, int place) {
        twins.unchanged("'" + text + "'", Call.joined(AHEAD, Call.run("text " + text)), new Call("tells"), -10 - place);
    }

    private static TalkTrees items(String text, int items) {
        TalkTrees x = Twins.made(AHEAD);
        Check.type(x, text);
        check.due("'" + text + "'", x.tells(), items);
        check.due("'" + text + "': THE TEXT is empty then", x.count(8), 0);
        return x;
    }

    private static void counts(String what, TalkTrees x, int nodes, int links, int source, int limit) {
        check.due(what + ": N", x.count(0), nodes);
        check.due(what + ": LINKS", x.count(1), links);
        check.due(what + ": SOURCE", x.count(2), source);
        check.due(what + ": LIMIT", x.count(3), limit);
    }

    /** "Two NODES, no LINKS": N 2, SOURCE 0, LIMIT 0, all else none at first. */
    private static void newObject() {
        TalkTrees x = new TalkTrees();
        counts("at first", x, 2, 0, 0, 0);
        for (int what = 4; what < 10; what++) {
            check.due("at first: count(" + what + ")", x.count(what), 0);
        }
        int[] trees = {0, 0, 0, 0, 0, Check.NONE, 0};
        for (int what = 0; what < trees.length; what++) {
            check.due("at first: tree(" + what + ")", x.tree(what), trees[what]);
        }
        check.due("at first: SOURCE is OF TREE", x.node(0, 1), 1);
        check.due("at first: node 1 is not", x.node(1, 1), 0);
        check.due("at first: there is no node 2", x.node(2, 1), BAD);
        check.due("at first: there is no link 0", x.link(0, 2), BAD);
    }

    /** "N 2 to 7; 2 at first". */
    private static void nodesAreTwoToSeven() {
        for (int n = 2; n <= 7; n++) {
            counts("nodes", items("nodes " + n + ";", 1), n, 0, 0, 0);
        }
        for (int n : new int[] {0, 1, 8, 9, 10, 27, 72}) {
            fault("nodes " + n + ";", 6);
        }
    }

    /** "NODES 0 to N less 1", as SOURCE, as A, as B. */
    private static void nodesAreBelowN() {
        for (int n = 2; n <= 7; n++) {
            String nodes = "nodes" + n + ";";
            int last = n - 1;
            counts("the last node as SOURCE", items(nodes + "source" + last + ";", 2), n, 0, last, 0);
            counts("node 0 as SOURCE", items(nodes + "source0;", 2), n, 0, 0, 0);
            TalkTrees x = items(nodes + "link" + last + " 0 1;", 2);
            check.due("the last node as A", x.link(0, 0), last);
            check.due("node 0 as B", x.link(0, 1), 0);
            x = items(nodes + "link0 " + last + " 1;", 2);
            check.due("node 0 as A", x.link(0, 0), 0);
            check.due("the last node as B", x.link(0, 1), last);
            fault(nodes + "source" + n + ";", 13);
            fault(nodes + "link" + n + " 0 1;", 11);
            fault(nodes + "link0 " + n + " 1;", 13);
        }
        fault("source2;", 6);
        fault("link2 0 1;", 4);
        fault("link0 2 1;", 6);
        fault("nodes7;source9;", 13);
        fault("nodes7;link9 0 1;", 11);
        fault("nodes7;link0 9 1;", 13);
    }

    /** "LINKS 0, 1, ..", 11 of them: a 12th has no room in 120 letters (LinksFullTest has it). */
    private static void linksHaveNumbers() {
        String text = "nodes7;";
        int links = 0;
        for (int a = 0; a < 7 && links < 11; a++) {
            for (int b = a + 1; b < 7 && links < 11; b++) {
                TalkTrees x = items(text, links + 1);
                check.due("how many", x.count(1), links);
                check.due("the first that is none", x.link(links, 2), BAD);
                check.due("the last", x.link(links - 1, 2), links == 0 ? BAD : 1 + (links - 1) % 9);
                text += "link" + a + " " + b + " " + (1 + links % 9) + ";";
                links++;
            }
        }
        TalkTrees x = items(text, 12);
        check.due("eleven", x.count(1), 11);
        check.due("the eleventh: A", x.link(10, 0), 1);
        check.due("the eleventh: B", x.link(10, 1), 6);
        check.due("the eleventh: COST", x.link(10, 2), 2);
        check.due("there is no twelfth", x.link(11, 0), BAD);
    }

    /** "each between two unlike NODES". */
    private static void linksAreBetweenUnlikeNodes() {
        for (int node = 0; node < 7; node++) {
            fault("nodes7;link" + node + " " + node + " 1;", 13);
        }
    }

    /** "a COST (1 to 9)". */
    private static void costsAreOneToNine() {
        for (int cost = 1; cost <= 9; cost++) {
            check.due("COST", items("link0 1 " + cost + ";", 1).link(0, 2), cost);
        }
        fault("link0 1 0;", 8);
        fault("link0 1 10;", 8);
        fault("link0 1 01;", 8);
    }

    /** "no two between the same NODES": "a B that .. has a LINK with it already". */
    private static void linksAreBetweenOtherNodes() {
        fault("link0 1 1;link0 1 1;", 16);
        fault("link0 1 1;link1 0 1;", 16);
        fault("link1 0 1;link0 1 9;", 16);
        fault("nodes7;link5 6 1;link4 6 1;link6 5 2;", 33);
        check.due("a node in common", items("nodes3;link0 1 1;link0 2 1;link2 1 1;", 4).count(1), 3);
        fault("nodes3;link0 1 1;link0 2 1;link2 1 1;link1 2 1;", 43);
        check.due("not of the text told ahead", items("nodes4;link0 1 2;", 2).count(1), 1);
    }

    /** "SOURCE: a NODE (0 at first)". */
    private static void sourceIsANode() {
        check.due("SOURCE 1", items("source1;", 1).node(1, 0), 2);
        check.due("SOURCE 0", items("source0;", 1).node(0, 0), 2);
        check.due("not told", items("link0 1 1;", 1).node(0, 0), 2);
        fault("source10;", 6);
        fault("source00;", 6);
    }

    /** "LIMIT (0 to 9; 0 at first)". */
    private static void limitIsNoughtToNine() {
        for (int limit = 0; limit <= 9; limit++) {
            counts("limit", items("limit" + limit + ";", 1), 2, 0, 0, limit);
        }
        fault("limit10;", 5);
        fault("limit00;", 5);
        fault("limit-1;", 5);
    }

    /** "A letter (0 .. 255) comes to THE TEXT: how many it has." */
    private static void lettersAreNoughtTo255() {
        TalkTrees x = new TalkTrees();
        int had = 0;
        for (int letter = 0; letter <= 255; letter++) {
            check.due("type(" + letter + ")", x.type(letter), ++had);
            if (had == 100) {
                check.due("clear()", x.clear(), 100);
                had = 0;
            }
        }
        check.due("type(-1)", x.type(-1), BAD);
        check.due("type(256)", x.type(256), BAD);
        check.due("count(8)", x.count(8), had);
    }

    /** "120 letters at most". */
    private static void lettersAre120AtMost() {
        TalkTrees x = new TalkTrees();
        for (int i = 1; i <= 120; i++) {
            check.due("type", x.type(' '), i);
            check.due("count(8)", x.count(8), i);
        }
        check.due("a 121st", x.type(' '), FULL);
        check.due("count(8)", x.count(8), 120);
        check.due("a 121st again", x.type(' '), FULL);
        check.due("clear()", x.clear(), 120);
        check.due("the first again", x.type(' '), 1);
        String links = "link0 1 1;link0 2 1;link0 3 1;link0 4 1;link0 5 1;link0 6 1;link1 2 1;link1 3 1;link1 4 1;link1 5 1;";
        counts("120 letters, the last one needed", items("nodes   7;" + links + "link1 6 1;", 12), 7, 11, 0, 0);
        counts("120 letters, the last ones blank", items("nodes7;" + links + "link1 6 1;   ", 12), 7, 11, 0, 0);
        fault("nodes   7;" + links + "link1 6 1 ", 120);
        fault("nodes   7;" + links + "link1 6 1x", 119);
        fault("nodes   7;" + links + "link1 6 10", 118);
        fault("nodes    7;" + links + "link1 6 1", 120);
        fault(" ".repeat(119) + ";", 119);
        fault(" ".repeat(115) + "limit", 120);
        x = items("9".repeat(120), -10, 120);
        check.due("a 121st behind a fault", x.type(';'), FULL);
    }

    private static TalkTrees items(String text, int items, int letters) {
        TalkTrees x = new TalkTrees();
        Check.type(x, text);
        check.due("'" + text + "'", x.tells(), items);
        check.due("'" + text + "': letters", x.count(8), letters);
        return x;
    }

    /** "THE TEXT is empty: how many letters it had." */
    private static void clearsAnyNumber() {
        TalkTrees x = new TalkTrees();
        check.due("clear() of none", x.clear(), 0);
        check.due("clear() of none again", x.clear(), 0);
        x.type(0);
        check.due("clear() of one", x.clear(), 1);
        check.due("none then", x.clear(), 0);
        Check.type(x, "nodes 3;".repeat(15));
        check.due("clear() of 120", x.clear(), 120);
        check.due("count(8)", x.count(8), 0);
        check.due("nothing is told then", x.tells(), 0);
        check.due("N", x.count(0), 2);
        Check.type(x, "limit 9;");
        x.clear();
        check.due("letters behind clear() stand alone", Check.tell(x, "limit 2;"), 1);
        check.due("LIMIT", x.count(3), 2);
        twins.same("clear() brings back THE TEXT of none", AHEAD, Call.run("text limit 9;", "clear"));
    }

    /** "blanks (32) may stand ahead of, between and behind TOKENS". */
    private static void blanksMayStandAnywhere() {
        counts("none but between figures", items("nodes3;source2;limit4;link0 1 2;", 4), 3, 1, 2, 4);
        counts("one each", items(" nodes 3 ; source 2 ; limit 4 ; link 0 1 2 ; ", 4), 3, 1, 2, 4);
        counts("many", items("   nodes   3   ;   source  2  ;    limit     4 ;    link   0   1   2  ;    ", 4), 3, 1, 2, 4);
        fault("no des 3;", 0);
        fault("nodes 3; lin k 0 1 1;", 9);
        for (int letter : new int[] {0, 9, 10, 11, 12, 13, 31, 33, 95, 127, 128, 160, 255}) {
            fault((char) letter + "nodes 3;", 0);
            fault("nodes" + (char) letter + "3;", 5);
            fault("nodes 3" + (char) letter + ";", 7);
            fault("nodes 3;" + (char) letter, 8);
        }
    }

    /** "(needed between two TOKENS of figures alone)": two side by side are one TOKEN of two figures. */
    private static void blanksAreNeededBetweenFigures() {
        check.due("by one blank", items("link0 1 2;", 1).link(0, 2), 2);
        fault("link01 2;", 4);
        fault("link0 12;", 6);
        fault("link012;", 4);
    }

    /** "by ITEMS (none, too ..)". */
    private static void itemsMayBeNone() {
        counts("no letters", items("", 0), 2, 0, 0, 0);
        counts("a blank", items(" ", 0), 2, 0, 0, 0);
        counts("120 blanks", items(" ".repeat(120), 0), 2, 0, 0, 0);
        TalkTrees x = items("", 0);
        check.due("no MEMBERS", x.count(4), 0);
        check.due("no MARKS", x.count(5), 0);
        check.due("no DOWN", x.count(6), 0);
        check.due("it can be undone", x.undo(), 5);
        check.due("N again", x.count(0), 4);
        fault(";", 0);
        fault(" ;", 1);
    }

    /** "what is not told is as at first", whatever was told ahead of it. */
    private static void whatIsNotToldIsAsAtFirst() {
        counts("nodes alone", items("nodes7;", 1), 7, 0, 0, 0);
        counts("source alone", items("source1;", 1), 2, 0, 1, 0);
        counts("limit alone", items("limit9;", 1), 2, 0, 0, 9);
        counts("link alone", items("link1 0 9;", 1), 2, 1, 0, 0);
        counts("a fault tells nothing", items("nodes7;source6;limit9;link0 1 1;x", -10 - 32, 33), 2, 0, 0, 0);
        TalkTrees x = items("nodes7;source6;limit9;link0 1 1;x", -10 - 32, 33);
        check.due("then", Check.tell(x, "limit 1;"), 1);
        counts("nothing of what was at fault", x, 2, 0, 0, 1);
    }

    /** "each ended by ;". */
    private static void itemsEndBySemicolon() {
        for (String item : List.of("nodes 3", "source 1", "limit 4", "link 0 1 5")) {
            int length = item.length();
            items(item + ";", 1);
            fault(item, length);
            fault(item + " ", length + 1);
            fault(item + " limit 1;", length + 1);
            fault(item + " 1;", length + 1);
            fault(item + ",", length);
            fault(item + ":", length);
            fault(item + ";;", length + 1);
            fault(item + "; ;", length + 2);
        }
    }

    /** "nodes N (once at most, ahead of all others)": "nodes behind another ITEM". */
    private static void nodesStandAheadOfAll() {
        items("nodes3;limit1;source1;link0 1 1;", 4);
        fault("nodes3;nodes3;", 7);
        fault("nodes3;nodes", 7);
        fault("limit1;nodes3;", 7);
        fault("source1;nodes3;", 8);
        fault("link0 1 1;nodes3;", 10);
        fault("link0 1 1;nodes9;", 10);
        fault("nodes3;limit1;nodes3;", 14);
    }

    /** "source S (once at most)". */
    private static void sourceStandsOnce() {
        counts("ahead", items("source1;limit1;link0 1 1;", 3), 2, 1, 1, 1);
        counts("between", items("limit1;source1;link0 1 1;", 3), 2, 1, 1, 1);
        counts("behind", items("limit1;link0 1 1;source1;", 3), 2, 1, 1, 1);
        fault("source1;source1;", 8);
        fault("source0;source", 8);
        fault("source0;limit1;source1;", 15);
        fault("source1;source;", 8);
        counts("once in each text", Twins.made(Call.run("text source1;", "tells", "text source0;limit1;", "tells")), 2, 0, 0, 1);
    }

    /** "limit L (told again: the later)". */
    private static void limitToldAgain() {
        counts("twice", items("limit9;limit0;", 2), 2, 0, 0, 0);
        counts("three times", items("limit0;limit9;limit5;", 3), 2, 0, 0, 5);
        counts("the same", items("limit5;limit5;", 2), 2, 0, 0, 5);
        counts("apart", items("limit1;link0 1 1;limit2;source1;", 4), 2, 1, 1, 2);
        counts("17 of them", items("limit3;".repeat(16) + "limit 7;", 17), 2, 0, 0, 7);
    }

    /** "link A B C (the next LINK: its NODES, its COST)". */
    private static void linksFollow() {
        TalkTrees x = items("nodes3;link2 1 3;limit1;link0 2 4;source1;link1 0 5;", 6);
        int[][] dues = {{2, 1, 3}, {0, 2, 4}, {1, 0, 5}};
        for (int link = 0; link < 3; link++) {
            for (int what = 0; what < 3; what++) {
                check.due("link(" + link + ", " + what + ")", x.link(link, what), dues[link][what]);
            }
        }
        fault("link;", 4);
        fault("link0;", 5);
        fault("link0 1;", 7);
        fault("link0 1 2 3;", 10);
    }

    /** "words (rows of letters a to z: nodes, source, limit, link)"; "of a word that is none of these .. that TOKEN's". */
    private static void wordsAreRowsOfSmallLetters() {
        for (String word : List.of("nodes", "source", "limit", "link")) {
            String cut = word.substring(0, word.length() - 1);
            for (String wrong : List.of(cut, word + "a", word + "z", word + "s", "a" + word, "z" + word, word + word,
                    word.substring(1), cut + "a", cut + "z", "a" + word.substring(1), "z" + word.substring(1))) {
                fault(wrong + " 1;", 0);
                fault(wrong, 0);
                fault("limit1; " + wrong + " 1;", 8);
            }
            fault(word.toUpperCase() + " 1;", 0);
            fault(cut + "Z 1;", 0);
            fault("A" + word + " 1;", 0);
            fault("`" + word + " 1;", 0);
            fault("{" + word + " 1;", 0);
            fault(word + "` 1;", word.length());
            fault(word + "{ 1;", word.length());
            fault(word + "A 1;", word.length());
        }
        fault("a", 0);
        fault("z", 0);
        fault("limit x;", 6);
        fault("limit limit;", 6);
        fault("limit 1 x;", 8);
        fault("link 0 x 1;", 7);
        fault("link 0 1 x;", 9);
        fault("limit1x;", 6);
    }

    /** "any TOKEN of figures that is not just one figure", or where none may stand. */
    private static void figuresStandAlone() {
        fault("0", 0);
        fault("9;", 0);
        fault("limit1;5;", 7);
        fault("nodes03;", 5);
        fault("nodes33;", 5);
        fault("source01;", 6);
        fault("limit09;", 5);
        fault("link00 1 1;", 4);
        fault("link0 01 1;", 6);
        fault("link0 1 01;", 8);
        fault("limit" + "0".repeat(100) + ";", 5);
        fault("limit/1;", 5);
        fault("limit1/;", 6);
        fault("limit:1;", 5);
        fault("limit1:;", 6);
        fault("nodes3 3;", 7);
    }

    /** "of any other letter (each is a TOKEN by itself), that TOKEN's". */
    private static void otherLettersAreTokens() {
        fault("+", 0);
        fault("++", 0);
        fault("limit+1;", 5);
        fault("limit1+;", 6);
        fault("limit1;+limit1;", 7);
        fault("link0+1 1;", 5);
        fault("li+nk", 0);
        fault("link0 1 1" + (char) 255, 9);
        fault((char) 0 + "limit1;", 0);
    }

    /** "the text's length, if it ends too early", behind each TOKEN of each ITEM. */
    private static void textsThatEndTooEarly() {
        for (String text : List.of("nodes", "nodes3", "source", "source1", "limit", "limit9", "link", "link0", "link0 1",
                "link0 1 1")) {
            fault(text, text.length());
            fault(text + "   ", text.length() + 3);
            fault("  " + text, text.length() + 2);
            if (!text.startsWith("nodes")) {
                fault("limit1;" + text, text.length() + 7);
            }
        }
    }

    /** "the first TOKEN that can't stand there". */
    private static void theFirstFaultCounts() {
        fault("nodes9;source9;x", 5);
        fault("limit1;source9;x", 13);
        fault("limit1;source1;x;link0 0 0;", 15);
        fault("link0 0 0;", 6);
        fault("link9 9 0;", 4);
        fault("link0 1 0", 8);
        fault("link0 1 1;link1 0 0;", 16);
        fault("source1;source9", 8);
    }

    /** Each of the 256 letters: alone, where figures are due, where ; is due. */
    private static void everyLetterEverywhere() {
        for (int letter = 0; letter < 256; letter++) {
            char c = (char) letter;
            boolean blank = letter == 32;
            boolean small = letter >= 97 && letter <= 122;
            boolean figure = letter >= 48 && letter <= 57;
            items("" + c, blank ? 0 : -10, blank ? 0 : 1);
            int place = small ? 0 : blank || (letter >= 50 && letter <= 55) ? 6 : 5;
            items("nodes" + c, -10 - place, 6);
            place = figure ? 5 : blank ? 7 : 6;
            items("nodes3" + c, letter == 59 ? 1 : -10 - place, letter == 59 ? 0 : 7);
            items("nodes3;" + c, blank ? 1 : -10 - 7, blank ? 0 : 8);
        }
    }
}
