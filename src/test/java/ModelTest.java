import java.util.ArrayList;
import java.util.List;
import java.util.Random;

/** Many runs of calls, the same each time, on the class and on the plain model: all answers must be the same. */
public final class ModelTest {
    private static final int RUNS = 600;
    private static final int CALLS = 512;
    private static final int[] EDGES = {Integer.MIN_VALUE, -100, -10, -9, -2, -1, 7, 8, 12, 31, 32, 33, 100, 256, Integer.MAX_VALUE};

    private final Random random;
    private final TalkTrees real = new TalkTrees();
    private final PlainTalkTrees plain = new PlainTalkTrees();
    private final List<String> calls = new ArrayList<>();
    private int made = 0;
    private boolean same = true;

    private ModelTest(long seed) {
        random = new Random(seed);
    }

    public static void main(String[] args) {
        for (int run = 0; run < RUNS; run++) {
            ModelTest test = new ModelTest(run);
            test.runs();
            if (!test.same) {
                System.out.println("run " + run + ":");
                test.calls.forEach(call -> System.out.println("  " + call));
                System.exit(1);
            }
        }
    }

    private void due(String call, int got, int want) {
        made++;
        calls.add(call + " = " + got);
        if (got != want && same) {
            same = false;
            calls.add("due is " + want);
        }
    }

    private void runs() {
        while (same && made < CALLS) {
            int kind = random.nextInt(100);
            if (made == 0 || kind < 3) {
                tellsText();
            } else if (kind < 55) {
                does();
            } else {
                asks();
            }
            if (random.nextInt(12) == 0) {
                asksAll();
            }
        }
    }

    private void tellsText() {
        String text = randomText();
        if (random.nextInt(4) == 0) {
            text = damaged(text);
        }
        for (int i = 0; i < text.length(); i++) {
            char c = text.charAt(i);
            due("type(" + (int) c + ")", real.type(c), plain.type(c));
        }
        due("tells()", real.tells(), plain.tells());
        if (random.nextInt(3) > 0) {
            due("clear()", real.clear(), plain.clear());
        }
    }

    private String randomText() {
        int n = 2 + random.nextInt(6);
        StringBuilder text = new StringBuilder("nodes").append(blank()).append(n).append(';');
        boolean dear = random.nextBoolean();
        List<String> links = new ArrayList<>();
        for (int a = 0; a < n; a++) {
            for (int b = 0; b < a; b++) {
                boolean turned = random.nextBoolean();
                links.add("link" + blank() + (turned ? b : a) + " " + (turned ? a : b) + " " + (1 + random.nextInt(dear ? 9 : 3)) + ";");
            }
        }
        java.util.Collections.shuffle(links, random);
        if (random.nextBoolean()) {
            links.add(random.nextInt(Math.min(3, links.size())), "source" + blank() + random.nextInt(n) + ";");
        }
        if (random.nextBoolean()) {
            links.add(random.nextInt(Math.min(3, links.size())), "limit" + blank() + random.nextInt(6) + ";");
        }
        int wanted = 1 + random.nextInt(14);
        for (String item : links) {
            if (wanted-- > 0 && text.length() + item.length() <= 120) {
                text.append(item);
            }
        }
        return text.toString();
    }

    private String blank() {
        return random.nextInt(5) == 0 ? " " : "";
    }

    private String damaged(String text) {
        StringBuilder sb = new StringBuilder(text);
        String signs = "; 0123456789acdeiklmnorstux:N\t\0\u00e9";
        int times = 1 + random.nextInt(2);
        for (int i = 0; i < times && sb.length() > 0; i++) {
            int place = random.nextInt(sb.length());
            switch (random.nextInt(4)) {
                case 0 -> sb.deleteCharAt(place);
                case 1 -> sb.insert(place, signs.charAt(random.nextInt(signs.length())));
                case 2 -> sb.setCharAt(place, signs.charAt(random.nextInt(signs.length())));
                default -> sb.setLength(place);
            }
        }
        return sb.toString();
    }

    private int number(int below) {
        return random.nextInt(25) == 0 ? EDGES[random.nextInt(EDGES.length)] : random.nextInt(Math.max(1, below));
    }

    private int aNode() {
        return number(plain.now.n);
    }

    private int aLink() {
        return number(plain.now.links.size());
    }

    private void does() {
        int n;
        switch (random.nextInt(16)) {
            case 0, 1, 2, 3, 4 -> { n = aNode(); due("joins(" + n + ")", real.joins(n), plain.joins(n)); }
            case 5, 6, 7 -> { n = aNode(); due("leaves(" + n + ")", real.leaves(n), plain.leaves(n)); }
            case 8 -> due("rearranges()", real.rearranges(), plain.rearranges());
            case 9, 10 -> { n = aLink(); due("cuts(" + n + ")", real.cuts(n), plain.cuts(n)); }
            case 11, 12 -> { n = aLink(); due("mends(" + n + ")", real.mends(n), plain.mends(n)); }
            case 13 -> { n = number(10); due("limits(" + n + ")", real.limits(n), plain.limits(n)); }
            case 14 -> due("undo()", real.undo(), plain.undo());
            default -> image();
        }
    }

    private void image() {
        int n = number(2);
        if (random.nextBoolean()) {
            due("keep(" + n + ")", real.keep(n), plain.keep(n));
        } else {
            due("back(" + n + ")", real.back(n), plain.back(n));
        }
    }

    private void asks() {
        int n;
        int what;
        switch (random.nextInt(8)) {
            case 0 -> { n = aLink(); what = number(6); due("link(" + n + ", " + what + ")", real.link(n, what), plain.link(n, what)); }
            case 1 -> { n = aNode(); what = number(7); due("node(" + n + ", " + what + ")", real.node(n, what), plain.node(n, what)); }
            case 2 -> { n = aNode(); what = number(7); due("way(" + n + ", " + what + ")", real.way(n, what), plain.way(n, what)); }
            case 3 -> { what = number(7); due("tree(" + what + ")", real.tree(what), plain.tree(what)); }
            case 4 -> {
                what = number(2);
                n = random.nextInt(4) == 0 ? -9 : number(what == 0 ? 9 : 4);
                due("sees(" + what + ", " + n + ")", real.sees(what, n), plain.sees(what, n));
            }
            case 5 -> { what = number(2); due("which(" + what + ")", real.which(what), plain.which(what)); }
            case 6 -> { what = number(10); due("count(" + what + ")", real.count(what), plain.count(what)); }
            default -> forgets();
        }
    }

    private void forgets() {
        if (random.nextInt(3) == 0) {
            due("forget()", real.forget(), plain.forget());
        }
    }

    private void asksAll() {
        for (int what = 0; what < 10; what++) {
            due("count(" + what + ")", real.count(what), plain.count(what));
        }
        for (int what = 0; what < 7; what++) {
            due("tree(" + what + ")", real.tree(what), plain.tree(what));
        }
        for (int link = 0; link < plain.now.links.size(); link++) {
            for (int what = 0; what < 6; what++) {
                due("link(" + link + ", " + what + ")", real.link(link, what), plain.link(link, what));
            }
        }
        for (int node = 0; node < plain.now.n; node++) {
            for (int what = 0; what < 7; what++) {
                due("node(" + node + ", " + what + ")", real.node(node, what), plain.node(node, what));
                due("way(" + node + ", " + what + ")", real.way(node, what), plain.way(node, what));
            }
        }
    }
}
