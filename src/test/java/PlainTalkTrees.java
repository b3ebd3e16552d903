import java.util.ArrayList;
import java.util.HashSet;
import java.util.LinkedHashMap;
import java.util.List;
import java.util.Map;
import java.util.Set;
import java.util.TreeSet;
import java.util.regex.Matcher;
import java.util.regex.Pattern;

/**
 * The document once more, in the plainest form and with none of the class's short cuts: all ways are
 * walked, all sets of links are tried, cuts are really made. The class is compared with it.
 */
final class PlainTalkTrees {
    private static final int BAD = -1, STATE = -2, FULL = -3, NONE = -9;

    record Link(int a, int b, int cost) {
        boolean at(int node) {
            return a == node || b == node;
        }

        int other(int node) {
            return a == node ? b : a;
        }
    }

    static final class World {
        int n = 2;
        int source = 0;
        int limit = 0;
        List<Link> links = new ArrayList<>();
        TreeSet<Integer> members = new TreeSet<>();
        TreeSet<Integer> tree = new TreeSet<>();
        TreeSet<Integer> down = new TreeSet<>();
        List<Integer> marks = new ArrayList<>();

        World copy() {
            World w = new World();
            w.n = n;
            w.source = source;
            w.limit = limit;
            w.links.addAll(links);
            w.members.addAll(members);
            w.tree.addAll(tree);
            w.down.addAll(down);
            w.marks.addAll(marks);
            return w;
        }

        int cost(Set<Integer> set) {
            int sum = 0;
            for (int l : set) {
                sum += links.get(l).cost();
            }
            return sum;
        }

        Set<Integer> ofTree(Set<Integer> set) {
            Set<Integer> nodes = new TreeSet<>();
            nodes.add(source);
            for (int l : set) {
                nodes.add(links.get(l).a());
                nodes.add(links.get(l).b());
            }
            return nodes;
        }

        /** Every way that is one, then the best by the document's three rules; null: none. */
        List<Integer> way(int node, Set<Integer> set) {
            List<List<Integer>> all = new ArrayList<>();
            Set<Integer> been = new HashSet<>();
            been.add(node);
            walk(node, ofTree(set), been, new ArrayList<>(), all);
            List<Integer> best = null;
            for (List<Integer> w : all) {
                if (best == null || better(node, w, best)) {
                    best = w;
                }
            }
            return best;
        }

        private void walk(int at, Set<Integer> goals, Set<Integer> been, List<Integer> done, List<List<Integer>> all) {
            if (goals.contains(at)) {
                all.add(new ArrayList<>(done));
                return;
            }
            for (int l = 0; l < links.size(); l++) {
                if (!down.contains(l) && links.get(l).at(at) && been.add(links.get(l).other(at))) {
                    int next = links.get(l).other(at);
                    done.add(l);
                    walk(next, goals, been, done, all);
                    done.remove(done.size() - 1);
                    been.remove(next);
                }
            }
        }

        private boolean better(int node, List<Integer> one, List<Integer> other) {
            int costOne = cost(new TreeSet<>(one));
            int costOther = cost(new TreeSet<>(other));
            if (costOne != costOther) {
                return costOne < costOther;
            }
            if (one.size() != other.size()) {
                return one.size() < other.size();
            }
            int at = node;
            for (int i = 0; i < one.size(); i++) {
                int toOne = links.get(one.get(i)).other(at);
                int toOther = links.get(other.get(i)).other(at);
                if (toOne != toOther) {
                    return toOne < toOther;
                }
                at = toOne;
            }
            return false;
        }

        Set<Integer> hanging(Set<Integer> set) {
            Set<Integer> nodes = new TreeSet<>();
            nodes.add(source);
            boolean more = true;
            while (more) {
                more = false;
                for (int l : set) {
                    Link link = links.get(l);
                    if (nodes.contains(link.a()) != nodes.contains(link.b())) {
                        nodes.add(link.a());
                        nodes.add(link.b());
                        more = true;
                    }
                }
            }
            return nodes;
        }

        void prune() {
            boolean more = true;
            while (more) {
                more = false;
                for (int node : ofTree(tree)) {
                    List<Integer> at = new ArrayList<>();
                    for (int l : tree) {
                        if (links.get(l).at(node)) {
                            at.add(l);
                        }
                    }
                    if (node != source && !members.contains(node) && at.size() == 1) {
                        tree.remove(at.get(0));
                        more = true;
                    }
                }
            }
        }

        TreeSet<Integer> anew() {
            TreeSet<Integer> fresh = new TreeSet<>();
            while (!ofTree(fresh).containsAll(members)) {
                int best = -1;
                for (int m : members) {
                    if (!ofTree(fresh).contains(m)
                            && (best < 0 || cost(new TreeSet<>(way(m, fresh))) < cost(new TreeSet<>(way(best, fresh))))) {
                        best = m;
                    }
                }
                fresh.addAll(way(best, fresh));
            }
            return fresh;
        }

        void rearranged() {
            TreeSet<Integer> fresh = anew();
            if (cost(fresh) < cost(tree)) {
                tree = fresh;
            }
            marks.clear();
        }

        void marked(int node) {
            if (marks.contains(node)) {
                marks.remove(Integer.valueOf(node));
            } else {
                marks.add(node);
            }
            if (limit != 0 && marks.size() >= limit) {
                rearranged();
            }
        }

        int cut(int l) {
            down.add(l);
            if (!tree.contains(l)) {
                return 0;
            }
            tree.remove(l);
            Set<Integer> nodes = hanging(tree);
            tree.removeIf(t -> !nodes.contains(links.get(t).a()));
            int lost = 0;
            for (int m : new ArrayList<>(members)) {
                if (!ofTree(tree).contains(m)) {
                    List<Integer> w = way(m, tree);
                    if (w == null) {
                        members.remove(m);
                        lost++;
                    } else {
                        tree.addAll(w);
                    }
                }
            }
            prune();
            return lost;
        }

        int least() {
            int best = -1;
            for (int bits = 0; bits < 1 << links.size(); bits++) {
                Set<Integer> set = setOf(bits);
                boolean up = true;
                for (int l : set) {
                    up &= !down.contains(l);
                }
                if (up && hanging(set).containsAll(members) && (best < 0 || cost(set) < cost(setOf(best)))) {
                    best = bits;
                }
            }
            return best;
        }

        /** The links of TREE on the one way from a node to SOURCE. */
        Set<Integer> toSource(int node) {
            List<List<Integer>> found = new ArrayList<>();
            climb(node, new ArrayList<>(), new HashSet<>(Set.of(node)), found);
            return new TreeSet<>(found.get(0));
        }

        private void climb(int at, List<Integer> done, Set<Integer> been, List<List<Integer>> found) {
            if (at == source) {
                found.add(new ArrayList<>(done));
                return;
            }
            for (int l : tree) {
                if (links.get(l).at(at) && been.add(links.get(l).other(at))) {
                    done.add(l);
                    climb(links.get(l).other(at), done, been, found);
                    done.remove(done.size() - 1);
                }
            }
        }

        int load(int l) {
            int load = 0;
            for (int m : members) {
                if (toSource(m).contains(l)) {
                    load++;
                }
            }
            return load;
        }
    }

    private static Set<Integer> setOf(int bits) {
        Set<Integer> set = new TreeSet<>();
        for (int i = 0; i < 31; i++) {
            if ((bits >> i & 1) != 0) {
                set.add(i);
            }
        }
        return set;
    }

    private static int bitsOf(Set<Integer> set) {
        int bits = 0;
        for (int i : set) {
            bits |= 1 << i;
        }
        return bits;
    }

    World now = new World();
    private final StringBuilder text = new StringBuilder();
    private final List<World> past = new ArrayList<>();
    private final List<int[]> seen = new ArrayList<>();
    private final Map<Integer, World> images = new LinkedHashMap<>();

    private boolean isNode(int node) {
        return node >= 0 && node < now.n;
    }

    private boolean isLink(int l) {
        return l >= 0 && l < now.links.size();
    }

    private void remember() {
        past.add(now.copy());
        if (past.size() > 6) {
            past.remove(0);
        }
    }

    int type(int letter) {
        if (letter < 0 || letter > 255) {
            return BAD;
        }
        if (text.length() == 120) {
            return FULL;
        }
        text.append((char) letter);
        return text.length();
    }

    int clear() {
        int had = text.length();
        text.setLength(0);
        return had;
    }

    private static final Pattern TOKEN = Pattern.compile("[a-z]+|[0-9]+|[^ ]", Pattern.DOTALL);

    int tells() {
        List<String> tokens = new ArrayList<>();
        List<Integer> places = new ArrayList<>();
        Matcher m = TOKEN.matcher(text);
        while (m.find()) {
            tokens.add(m.group());
            places.add(m.start());
        }
        places.add(text.length());
        World fresh = new World();
        int[] items = new int[1];
        int fault = firstFault(tokens, fresh, items);
        if (fault >= 0) {
            return -10 - places.get(fault);
        }
        remember();
        now = fresh;
        text.setLength(0);
        return items[0];
    }

    /** The number of the first token at fault (the number of tokens: too early an end), or -1. */
    private static int firstFault(List<String> tokens, World w, int[] items) {
        String form = "";
        int[] figures = new int[3];
        int have = 0;
        boolean sourceTold = false;
        for (int t = 0; t < tokens.size(); t++) {
            String token = tokens.get(t);
            if (form.isEmpty()) {
                boolean right = switch (token) {
                    case "nodes" -> items[0] == 0;
                    case "source" -> !sourceTold;
                    case "limit" -> true;
                    case "link" -> w.links.size() < 12;
                    default -> false;
                };
                if (!right) {
                    return t;
                }
                form = token;
                have = 0;
            } else if (have < (form.equals("link") ? 3 : 1)) {
                if (!token.matches("[0-9]")) {
                    return t;
                }
                int f = Integer.parseInt(token);
                int first = figures[0];
                boolean right = switch (form) {
                    case "nodes" -> f >= 2 && f <= 7;
                    case "source" -> f < w.n;
                    case "limit" -> true;
                    default -> have == 0 ? f < w.n
                        : have == 1 ? f < w.n && f != first && w.links.stream().noneMatch(l -> l.at(f) && l.at(first))
                        : f >= 1;
                };
                if (!right) {
                    return t;
                }
                figures[have++] = f;
            } else {
                if (!token.equals(";")) {
                    return t;
                }
                switch (form) {
                    case "nodes" -> w.n = figures[0];
                    case "source" -> {
                        w.source = figures[0];
                        sourceTold = true;
                    }
                    case "limit" -> w.limit = figures[0];
                    default -> w.links.add(new Link(figures[0], figures[1], figures[2]));
                }
                items[0]++;
                form = "";
            }
        }
        return form.isEmpty() ? -1 : tokens.size();
    }

    int joins(int node) {
        if (!isNode(node)) {
            return BAD;
        }
        if (node == now.source || now.members.contains(node) || now.way(node, now.tree) == null) {
            return STATE;
        }
        remember();
        now.tree.addAll(now.way(node, now.tree));
        now.members.add(node);
        now.marked(node);
        return now.cost(now.tree);
    }

    int leaves(int node) {
        if (!isNode(node)) {
            return BAD;
        }
        if (!now.members.contains(node)) {
            return STATE;
        }
        remember();
        now.members.remove(node);
        now.prune();
        now.marked(node);
        return now.cost(now.tree);
    }

    int rearranges() {
        int less = now.cost(now.tree) - now.cost(now.anew());
        if (less <= 0) {
            return STATE;
        }
        remember();
        now.rearranged();
        return less;
    }

    int cuts(int l) {
        if (!isLink(l)) {
            return BAD;
        }
        if (now.down.contains(l)) {
            return STATE;
        }
        remember();
        return now.cut(l);
    }

    int mends(int l) {
        if (!isLink(l)) {
            return BAD;
        }
        if (!now.down.contains(l)) {
            return STATE;
        }
        remember();
        now.down.remove(l);
        return now.down.size();
    }

    int limits(int n) {
        if (n < 0 || n > 9) {
            return BAD;
        }
        if (n == now.limit) {
            return STATE;
        }
        remember();
        int was = now.limit;
        now.limit = n;
        return was;
    }

    int undo() {
        if (past.isEmpty()) {
            return STATE;
        }
        now = past.remove(past.size() - 1);
        return past.size();
    }

    int link(int l, int what) {
        if (!isLink(l) || what < 0 || what > 5) {
            return BAD;
        }
        Link link = now.links.get(l);
        return switch (what) {
            case 0 -> link.a();
            case 1 -> link.b();
            case 2 -> link.cost();
            case 3 -> now.tree.contains(l) ? 1 : 0;
            case 4 -> now.down.contains(l) ? 1 : 0;
            default -> now.load(l);
        };
    }

    int node(int node, int what) {
        if (!isNode(node) || what < 0 || what > 6) {
            return BAD;
        }
        boolean of = now.ofTree(now.tree).contains(node);
        List<Integer> way = now.way(node, now.tree);
        return switch (what) {
            case 0 -> node == now.source ? 2 : now.members.contains(node) ? 1 : 0;
            case 1 -> of ? 1 : 0;
            case 2 -> of ? now.cost(now.toSource(node)) : NONE;
            case 3 -> way == null ? NONE : now.cost(new TreeSet<>(way));
            case 4 -> way == null ? NONE : way.size();
            case 5 -> now.marks.contains(node) ? now.marks.indexOf(node) : NONE;
            default -> (int) now.tree.stream().filter(l -> now.links.get(l).at(node)).count();
        };
    }

    int way(int node, int i) {
        if (!isNode(node) || i < 0) {
            return BAD;
        }
        List<Integer> way = now.way(node, now.tree);
        return way == null || i >= way.size() ? NONE : way.get(i);
    }

    int tree(int what) {
        return switch (what) {
            case 0 -> now.cost(now.tree);
            case 1 -> now.cost(now.anew());
            case 2 -> now.cost(setOf(now.least()));
            case 3 -> now.least();
            case 4 -> bitsOf(now.tree);
            case 5 -> busiest();
            case 6 -> needed();
            default -> BAD;
        };
    }

    private int busiest() {
        int best = NONE;
        for (int l : now.tree) {
            if (best == NONE || now.load(l) > now.load(best)) {
                best = l;
            }
        }
        return best;
    }

    private int needed() {
        int bits = 0;
        for (int l : now.tree) {
            if (now.copy().cut(l) > 0) {
                bits |= 1 << l;
            }
        }
        return bits;
    }

    int sees(int what, int n) {
        if (what < 0 || what > 1 || (n != NONE && (n < 0 || n > 99))) {
            return BAD;
        }
        if (seen.size() == 6) {
            return FULL;
        }
        seen.add(new int[] {what, n});
        return seen.size();
    }

    int forget() {
        int had = seen.size();
        seen.clear();
        return had;
    }

    int which(int what) {
        if (what < 0 || what > 1) {
            return BAD;
        }
        List<Integer> fit = new ArrayList<>();
        for (int node = 0; node < now.n; node++) {
            boolean right = node(node, 0) == 0;
            for (int[] s : seen) {
                right &= node(node, 3 + s[0]) == s[1];
            }
            if (right) {
                fit.add(node);
            }
        }
        return what == 0 ? fit.size() : fit.isEmpty() ? NONE : fit.get(0);
    }

    int keep(int image) {
        if (image < 0 || image > 1) {
            return BAD;
        }
        images.put(image, now.copy());
        return now.members.size();
    }

    int back(int image) {
        if (image < 0 || image > 1) {
            return BAD;
        }
        if (!images.containsKey(image)) {
            return STATE;
        }
        now = images.get(image).copy();
        past.clear();
        return now.members.size();
    }

    int count(int what) {
        return switch (what) {
            case 0 -> now.n;
            case 1 -> now.links.size();
            case 2 -> now.source;
            case 3 -> now.limit;
            case 4 -> now.members.size();
            case 5 -> now.marks.size();
            case 6 -> now.down.size();
            case 7 -> seen.size();
            case 8 -> text.length();
            case 9 -> past.size();
            default -> BAD;
        };
    }
}
