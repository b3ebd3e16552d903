import java.util.ArrayList;
import java.util.List;
import java.util.Set;

/**
 * Two objects with the same calls behind them, but for some calls that one of them alone has had: whether
 * everything that can be asked is the same of both, what undo(), back() and tells() bring to light, too.
 */
final class Twins {
    private static final Set<String> QUESTIONS = Set.of("count", "tree", "link", "node", "way", "which");
    private static final List<Call> ASKED = asked();
    private static final List<List<Call>> LOOKS = looks();

    private final Check check;

    Twins(Check check) {
        this.check = check;
    }

    /** The last call of the run answers this, and nothing changes by it. */
    void unchanged(String what, List<Call> ahead, Call last, int answer) {
        TalkTrees x = made(ahead);
        check.due(what + ": " + last, last.on(x), answer);
        same(what + ": behind " + last, ahead, List.of(last));
    }

    /** What comes more behind the run changes nothing. */
    void same(String what, List<Call> ahead, List<Call> more) {
        alike(what, ahead, Call.joined(ahead, more));
    }

    /** Both runs come to the same. */
    void alike(String what, List<Call> one, List<Call> other) {
        for (List<Call> look : LOOKS) {
            TalkTrees x = made(Call.joined(other, look).subList(0, other.size()));
            TalkTrees y = made(Call.joined(one, look).subList(0, one.size()));
            StringBuilder done = new StringBuilder();
            for (Call call : look) {
                check.due(what + done + ", " + call, call.on(x), call.on(y));
                if (!QUESTIONS.contains(call.name())) {
                    done.append(", ").append(call);
                }
            }
        }
    }

    static TalkTrees made(List<Call> run) {
        TalkTrees x = new TalkTrees();
        run.forEach(call -> call.on(x));
        return x;
    }

    /** All that can be asked, and wrong numbers on both sides of it. */
    private static List<Call> asked() {
        List<Call> calls = new ArrayList<>();
        for (int what = -1; what <= 10; what++) {
            calls.add(new Call("count", what));
        }
        for (int what = -1; what <= 7; what++) {
            calls.add(new Call("tree", what));
        }
        for (int link = 0; link < 12; link++) {
            for (int what = 0; what < 6; what++) {
                calls.add(new Call("link", link, what));
            }
        }
        for (int node = 0; node < 7; node++) {
            for (int what = 0; what < 7; what++) {
                calls.add(new Call("node", node, what));
                if (what < 6) {
                    calls.add(new Call("way", node, what));
                }
            }
        }
        calls.add(new Call("which", 0));
        calls.add(new Call("which", 1));
        return calls;
    }

    private static List<List<Call>> looks() {
        List<List<Call>> looks = new ArrayList<>();
        List<Call> undone = new ArrayList<>();
        for (int times = 0; times <= 7; times++) {
            looks.add(Call.joined(undone, ASKED));
            undone.add(new Call("undo"));
        }
        looks.add(Call.joined(Call.run("tells"), ASKED));
        looks.add(Call.joined(Call.run("type 59", "tells", "clear"), ASKED));
        looks.add(Call.joined(Call.run("back 0", "count 9"), ASKED));
        looks.add(Call.joined(Call.run("back 1", "count 9"), ASKED));
        looks.add(Call.joined(Call.run("sees 1 0", "which 0", "which 1", "sees 1 0", "sees 1 0", "sees 1 0",
            "sees 1 0", "sees 1 0", "sees 1 0", "forget"), ASKED));
        return looks;
    }

    static List<Call> everyQuestion() {
        return ASKED;
    }
}
