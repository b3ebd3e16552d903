import java.lang.reflect.Field;

/**
 * "LINKS .. (12 at most ..)", "a 13th link at that word". 12 links need 127 letters at least, so no text of
 * 120 can tell them; this test puts a longer text into the object by its private fields, as if it had room.
 */
public final class LinksFullTest {
    private static final Check check = new Check();

    /** Links 0 to 5 are a chain of dear links, 6 to 11 cheaper ones; SOURCE is 0. */
    private static final String TWELVE = "nodes7;link0 1 9;link1 2 9;link2 3 9;link3 4 9;link4 5 9;link5 6 9;"
        + "link0 2 8;link1 3 8;link2 4 8;link3 5 8;link4 6 8;link0 6 7;";

    public static void main(String[] args) throws ReflectiveOperationException {
        twelve();
        theTwelfthServes();
        aThirteenth("link0 3 1;");
        aThirteenth("  link0 3 1;");
        aThirteenth("link");
        aThirteenth("link0 0 0;");
        aThirteenth("link0 1 1;");
        otherItemsBehindTwelve();
        check.end();
    }

    private static TalkTrees withText(TalkTrees x, String text) throws ReflectiveOperationException {
        Field field = TalkTrees.class.getDeclaredField("text");
        field.setAccessible(true);
        Object held = field.get(x);
        Field letters = held.getClass().getDeclaredField("letters");
        letters.setAccessible(true);
        letters.set(held, text.chars().toArray());
        Field length = held.getClass().getDeclaredField("length");
        length.setAccessible(true);
        length.setInt(held, text.length());
        return x;
    }

    private static void twelve() throws ReflectiveOperationException {
        TalkTrees x = withText(new TalkTrees(), TWELVE);
        check.due("tells()", x.tells(), 13);
        check.due("12 links", x.count(1), 12);
        check.due("the last: A", x.link(11, 0), 0);
        check.due("the last: B", x.link(11, 1), 6);
        check.due("the last: COST", x.link(11, 2), 7);
        for (int link : new int[] {12, 13, -1}) {
            for (int what = 0; what < 6; what++) {
                check.due("link(" + link + ", " + what + ")", x.link(link, what), Check.BAD);
            }
            check.due("cuts(" + link + ")", x.cuts(link), Check.BAD);
            check.due("mends(" + link + ")", x.mends(link), Check.BAD);
        }
    }

    private static void theTwelfthServes() throws ReflectiveOperationException {
        TalkTrees x = withText(new TalkTrees(), TWELVE);
        x.tells();
        x.keep(1);
        check.due("joins(6)", x.joins(6), 7);
        check.due("TREE", x.tree(4), 1 << 11);
        check.due("LEAST", x.tree(3), 1 << 11);
        check.due("BUSIEST", x.tree(5), 11);
        check.due("LOAD", x.link(11, 5), 1);
        check.due("joins(5): by 6, not by 4", x.joins(5), 16);
        check.due("cuts(11)", x.cuts(11), 0);
        check.due("DOWN", x.link(11, 4), 1);
        check.due("5 by 3 and 1, then 6 by 5", x.tree(4), 1 | 1 << 7 | 1 << 9 | 1 << 5);
        check.due("mends(11)", x.mends(11), 0);
        check.due("rearranges()", x.rearranges(), 18);
        for (int link = 0; link < 11; link++) {
            // Without links 0 to 4, nodes 1, 3, 5 hang by link 5 alone: node 5 is lost with it.
            check.due("cuts(" + link + ")", x.cuts(link), link == 5 ? 1 : 0);
        }
        check.due("6 by the last link that is up", x.tree(4), 1 << 11);
        check.due("NEEDED", x.tree(6), 1 << 11);
        check.due("the last link", x.cuts(11), 1);
        check.due("12 are DOWN", x.count(6), 12);
        check.due("back(1)", x.back(1), 0);
        check.due("none is DOWN", x.count(6), 0);
        check.due("12 links", x.count(1), 12);
        check.due("the last: COST", x.link(11, 2), 7);
        x.cuts(0);
        check.due("undo()", x.undo(), 0);
        check.due("the last: B", x.link(11, 1), 6);
    }

    private static void aThirteenth(String more) throws ReflectiveOperationException {
        TalkTrees x = withText(new TalkTrees(), TWELVE + more);
        int place = (TWELVE + more).indexOf("link", TWELVE.length());
        check.due("a 13th: '" + more + "'", x.tells(), -10 - place);
        check.due("nothing changes: N", x.count(0), 2);
        check.due("nothing changes: LINKS", x.count(1), 0);
        check.due("nothing changes: what can be UNDONE", x.count(9), 0);
        check.due("THE TEXT stays", x.clear(), (TWELVE + more).length());
    }

    private static void otherItemsBehindTwelve() throws ReflectiveOperationException {
        TalkTrees x = withText(new TalkTrees(), TWELVE + "limit3;source6;");
        check.due("limit and source behind 12 links", x.tells(), 15);
        check.due("LIMIT", x.count(3), 3);
        check.due("SOURCE", x.count(2), 6);
        check.due("12 links", x.count(1), 12);
    }
}
