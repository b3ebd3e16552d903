/** What the tests share: compares answers with those that are due, and counts what differs. */
final class Check {
    static final int BAD = -1, STATE = -2, FULL = -3, NONE = -9;

    private int wrong = 0;

    void due(String call, long got, long want) {
        if (got != want) {
            wrong++;
            System.out.println(call + " answered " + got + ", due is " + want);
        }
    }

    void that(String what, boolean holds) {
        if (!holds) {
            wrong++;
            System.out.println(what + ": does not hold");
        }
    }

    int wrong() {
        return wrong;
    }

    void end() {
        if (wrong != 0) {
            System.out.println(wrong + " answers are not as due");
            System.exit(1);
        }
    }

    static void type(TalkTrees talk, String text) {
        for (int i = 0; i < text.length(); i++) {
            talk.type(text.charAt(i));
        }
    }

    static int tell(TalkTrees talk, String text) {
        talk.clear();
        type(talk, text);
        return talk.tells();
    }

    static TalkTrees told(String text) {
        TalkTrees talk = new TalkTrees();
        int items = tell(talk, text);
        if (items < 0) {
            throw new IllegalArgumentException("a test's text has the answer " + items + ": " + text);
        }
        return talk;
    }
}
