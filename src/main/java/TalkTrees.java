import java.util.Arrays;

/**
 * Trees for talks that change: members come to a tree of links by their least way and go again;
 * what the class promises stands in the project's document, and its words in capitals are used here.
 *
 * <p>Sets of nodes and of links are held as bits of an int: bit i stands for node or link i.
 */
public final class TalkTrees {
    public static final int BAD = -1, STATE = -2, FULL = -3, NONE = -9;

    private static final int LEAST_NODES = 2, MOST_NODES = 7;
    private static final int MOST_LINKS = 12;
    private static final int LEAST_COST = 1, MOST_COST = 9;
    private static final int MOST_LIMIT = 9;
    private static final int MOST_LETTERS = 120, MOST_LETTER = 255;
    private static final int MOST_UNDONE = 6;
    private static final int MOST_SEEN = 6, MOST_SEEN_NUMBER = 99;
    private static final int IMAGES = 2;

    private final Text text = new Text();
    private final Talk now = new Talk();
    private final Talk told = new Talk();
    private final Past past = new Past();
    private final Builder builder = new Builder();
    private final Ways ways = new Ways();
    private final Sights sights = new Sights();
    private final Talk[] images = new Talk[IMAGES];
    private final boolean[] kept = new boolean[IMAGES];

    public TalkTrees() {
        for (int image = 0; image < IMAGES; image++) {
            images[image] = new Talk();
        }
    }

    // ---- what is told

    public int type(int letter) {
        if (letter < 0 || letter > MOST_LETTER) {
            return BAD;
        }
        return text.append(letter) ? text.length : FULL;
    }

    public int clear() {
        return text.empty();
    }

    public int tells() {
        int items = text.read(told);
        if (items >= 0) {
            past.remember(now);
            now.become(told);
            text.empty();
        }
        return items;
    }

    // ---- what is done

    public int joins(int node) {
        if (!now.hasNode(node)) {
            return BAD;
        }
        if (role(node) != 0 || !hasWay(node)) {
            return STATE;
        }
        past.remember(now);
        builder.join(now, node);
        builder.mark(now, node);
        return now.costOf(now.tree);
    }

    public int leaves(int node) {
        if (!now.hasNode(node)) {
            return BAD;
        }
        if (!now.isMember(node)) {
            return STATE;
        }
        past.remember(now);
        builder.leave(now, node);
        builder.mark(now, node);
        return now.costOf(now.tree);
    }

    public int rearranges() {
        int less = now.costOf(now.tree) - now.costOf(builder.anew(now));
        if (less <= 0) {
            return STATE;
        }
        past.remember(now);
        builder.rearrange(now);
        return less;
    }

    public int cuts(int link) {
        if (!now.hasLink(link)) {
            return BAD;
        }
        if (has(now.down, link)) {
            return STATE;
        }
        past.remember(now);
        return builder.cut(now, link);
    }

    public int mends(int link) {
        if (!now.hasLink(link)) {
            return BAD;
        }
        if (!has(now.down, link)) {
            return STATE;
        }
        past.remember(now);
        now.down &= ~(1 << link);
        return Integer.bitCount(now.down);
    }

    public int limits(int n) {
        if (n < 0 || n > MOST_LIMIT) {
            return BAD;
        }
        if (n == now.limit) {
            return STATE;
        }
        past.remember(now);
        int before = now.limit;
        now.limit = n;
        return before;
    }

    public int undo() {
        return past.recall(now) ? past.size : STATE;
    }

    // ---- asked

    public int link(int link, int what) {
        if (!now.hasLink(link)) {
            return BAD;
        }
        switch (what) {
            case 0: return now.first[link];
            case 1: return now.second[link];
            case 2: return now.cost[link];
            case 3: return has(now.tree, link) ? 1 : 0;
            case 4: return has(now.down, link) ? 1 : 0;
            case 5: return now.load(link);
            default: return BAD;
        }
    }

    public int node(int node, int what) {
        if (!now.hasNode(node)) {
            return BAD;
        }
        switch (what) {
            case 0: return role(node);
            case 1: return has(now.nodesOf(now.tree), node) ? 1 : 0;
            case 2: return far(node);
            case 3: ways.find(now, now.tree); return ways.costFrom(node);
            case 4: ways.find(now, now.tree); return ways.stepsFrom(node);
            case 5: return now.markOf(node);
            case 6: return Integer.bitCount(now.linksAt(node) & now.tree);
            default: return BAD;
        }
    }

    public int way(int node, int i) {
        if (!now.hasNode(node) || i < 0) {
            return BAD;
        }
        ways.find(now, now.tree);
        return ways.stepAt(now, node, i);
    }

    public int tree(int what) {
        switch (what) {
            case 0: return now.costOf(now.tree);
            case 1: return now.costOf(builder.anew(now));
            case 2: return now.costOf(Least.of(now));
            case 3: return Least.of(now);
            case 4: return now.tree;
            case 5: return now.busiest();
            case 6: return now.needed();
            default: return BAD;
        }
    }

    // ---- which node

    public int sees(int what, int n) {
        boolean number = n == NONE || (n >= 0 && n <= MOST_SEEN_NUMBER);
        if (what < 0 || what > 1 || !number) {
            return BAD;
        }
        return sights.add(what, n) ? sights.size : FULL;
    }

    public int forget() {
        return sights.empty();
    }

    public int which(int what) {
        if (what < 0 || what > 1) {
            return BAD;
        }
        int fitting = fittingNodes();
        if (what == 0) {
            return Integer.bitCount(fitting);
        }
        return fitting == 0 ? NONE : Integer.numberOfTrailingZeros(fitting);
    }

    // ---- images

    public int keep(int image) {
        if (image < 0 || image >= IMAGES) {
            return BAD;
        }
        images[image].become(now);
        kept[image] = true;
        return Integer.bitCount(now.members);
    }

    public int back(int image) {
        if (image < 0 || image >= IMAGES) {
            return BAD;
        }
        if (!kept[image]) {
            return STATE;
        }
        now.become(images[image]);
        past.drop();
        return Integer.bitCount(now.members);
    }

    public int count(int what) {
        switch (what) {
            case 0: return now.nodes;
            case 1: return now.links;
            case 2: return now.source;
            case 3: return now.limit;
            case 4: return Integer.bitCount(now.members);
            case 5: return now.markCount;
            case 6: return Integer.bitCount(now.down);
            case 7: return sights.size;
            case 8: return text.length;
            case 9: return past.size;
            default: return BAD;
        }
    }

    // ---- what the calls share

    private static boolean has(int set, int member) {
        return (set >> member & 1) != 0;
    }

    private int role(int node) {
        if (node == now.source) {
            return 2;
        }
        return now.isMember(node) ? 1 : 0;
    }

    private boolean hasWay(int node) {
        ways.find(now, now.tree);
        return ways.reach(node);
    }

    /** FAR is a way as well: to SOURCE alone, by LINKS of TREE alone. */
    private int far(int node) {
        ways.findBy(now, now.tree, 1 << now.source);
        return ways.costFrom(node);
    }

    private int fittingNodes() {
        ways.find(now, now.tree);
        int fitting = 0;
        for (int node = 0; node < now.nodes; node++) {
            if (role(node) == 0 && sights.fit(ways.costFrom(node), ways.stepsFrom(node))) {
                fitting |= 1 << node;
            }
        }
        return fitting;
    }

    /** All that an image keeps and undo() brings back: NODES, LINKS, MEMBERS, TREE, DOWN and MARKS. */
    private static final class Talk {
        int nodes = LEAST_NODES;
        int source;
        int limit;
        int links;
        final int[] first = new int[MOST_LINKS];
        final int[] second = new int[MOST_LINKS];
        final int[] cost = new int[MOST_LINKS];
        int members;
        int tree;
        int down;
        int markCount;
        final int[] marks = new int[MOST_NODES];

        void beAsAtFirst() {
            nodes = LEAST_NODES;
            source = 0;
            limit = 0;
            links = 0;
            members = 0;
            tree = 0;
            down = 0;
            markCount = 0;
        }

        void become(Talk other) {
            nodes = other.nodes;
            source = other.source;
            limit = other.limit;
            links = other.links;
            System.arraycopy(other.first, 0, first, 0, MOST_LINKS);
            System.arraycopy(other.second, 0, second, 0, MOST_LINKS);
            System.arraycopy(other.cost, 0, cost, 0, MOST_LINKS);
            members = other.members;
            tree = other.tree;
            down = other.down;
            markCount = other.markCount;
            System.arraycopy(other.marks, 0, marks, 0, MOST_NODES);
        }

        boolean hasNode(int node) {
            return node >= 0 && node < nodes;
        }

        boolean hasLink(int link) {
            return link >= 0 && link < links;
        }

        boolean isMember(int node) {
            return has(members, node);
        }

        void addLink(int from, int to, int price) {
            if (links < MOST_LINKS) {
                first[links] = from;
                second[links] = to;
                cost[links] = price;
                links++;
            }
        }

        boolean areLinked(int one, int other) {
            return (linksAt(one) & linksAt(other)) != 0;
        }

        /** The two nodes of a link. */
        int ends(int link) {
            return 1 << first[link] | 1 << second[link];
        }

        int linksAt(int node) {
            int set = 0;
            for (int link = 0; link < links; link++) {
                if (has(ends(link), node)) {
                    set |= 1 << link;
                }
            }
            return set;
        }

        int upLinks() {
            return ((1 << links) - 1) & ~down;
        }

        int costOf(int set) {
            int sum = 0;
            for (int link = 0; link < links; link++) {
                if (has(set, link)) {
                    sum += cost[link];
                }
            }
            return sum;
        }

        /** The nodes that are OF TREE, if these links are TREE. */
        int nodesOf(int set) {
            int found = 1 << source;
            for (int link = 0; link < links; link++) {
                if (has(set, link)) {
                    found |= ends(link);
                }
            }
            return found;
        }

        /** The nodes that hang together with SOURCE by these links. */
        int hangingBy(int set) {
            int reached = 1 << source;
            for (int round = 1; round < nodes; round++) {
                for (int link = 0; link < links; link++) {
                    if (has(set, link) && (reached & ends(link)) != 0) {
                        reached |= ends(link);
                    }
                }
            }
            return reached;
        }

        /** The members that don't come to SOURCE by these links, if this one is not among them. */
        int membersOff(int set, int link) {
            return members & ~hangingBy(set & ~(1 << link));
        }

        int load(int link) {
            return has(tree, link) ? Integer.bitCount(membersOff(tree, link)) : 0;
        }

        int busiest() {
            int found = NONE;
            int greatest = -1;
            for (int link = 0; link < links; link++) {
                if (has(tree, link) && load(link) > greatest) {
                    found = link;
                    greatest = load(link);
                }
            }
            return found;
        }

        int needed() {
            int set = 0;
            for (int link = 0; link < links; link++) {
                if (has(tree, link) && membersOff(upLinks(), link) != 0) {
                    set |= 1 << link;
                }
            }
            return set;
        }

        /** The place of a node's mark, or NONE. */
        int markOf(int node) {
            for (int place = 0; place < markCount; place++) {
                if (marks[place] == node) {
                    return place;
                }
            }
            return NONE;
        }

        /** A mark at the end; or, if there is one, that is taken out. */
        void turnMark(int node) {
            int place = markOf(node);
            if (place >= 0) {
                markCount--;
                System.arraycopy(marks, place + 1, marks, place, markCount - place);
            } else if (markCount < MOST_NODES) {
                marks[markCount] = node;
                markCount++;
            }
        }

        void prune() {
            int served = members | 1 << source;
            for (int round = 0; round < nodes; round++) {
                for (int node = 0; node < nodes; node++) {
                    int hanging = linksAt(node) & tree;
                    if (!has(served, node) && Integer.bitCount(hanging) == 1) {
                        tree &= ~hanging;
                    }
                }
            }
        }
    }

    /** The least ways of all nodes to some goals. */
    private static final class Ways {
        /** More than the links of any way, so that these never count as much as one of cost. */
        private static final int ONE_COST = 16;
        private static final int NO_WAY = 1 << 20;

        /** Cost times ONE_COST and number of links: of equal costs the fewest links are least. */
        final int[] weights = new int[MOST_NODES];
        int usable;

        /** The WAYS, if these links are TREE. */
        void find(Talk talk, int tree) {
            findBy(talk, talk.upLinks(), talk.nodesOf(tree));
        }

        /** All weights are above 0, so that a least way comes to no node twice and ends at the first goal. */
        void findBy(Talk talk, int links, int goals) {
            usable = links;
            Arrays.fill(weights, NO_WAY);
            for (int node = 0; node < talk.nodes; node++) {
                if (has(goals, node)) {
                    weights[node] = 0;
                }
            }
            for (int round = 1; round < talk.nodes; round++) {
                for (int link = 0; link < talk.links; link++) {
                    if (has(usable, link)) {
                        shorten(talk.first[link], talk.second[link], weightOf(talk, link));
                    }
                }
            }
        }

        private void shorten(int one, int other, int weight) {
            weights[one] = Math.min(weights[one], weights[other] + weight);
            weights[other] = Math.min(weights[other], weights[one] + weight);
        }

        private static int weightOf(Talk talk, int link) {
            return talk.cost[link] * ONE_COST + 1;
        }

        boolean reach(int node) {
            return weights[node] < NO_WAY;
        }

        int costFrom(int node) {
            return reach(node) ? weights[node] / ONE_COST : NONE;
        }

        int stepsFrom(int node) {
            return reach(node) ? weights[node] % ONE_COST : NONE;
        }

        /** The first link of a node's way, or NONE: of least ways the one to the lowest next node. */
        private int firstStep(Talk talk, int node) {
            int found = NONE;
            int lowest = MOST_NODES;
            for (int link = 0; link < talk.links; link++) {
                if (has(usable, link) && has(talk.ends(link), node)) {
                    int next = nextNode(talk, link, node);
                    if (next < lowest && weights[next] + weightOf(talk, link) == weights[node]) {
                        found = link;
                        lowest = next;
                    }
                }
            }
            return found;
        }

        private static int nextNode(Talk talk, int link, int node) {
            return talk.first[link] == node ? talk.second[link] : talk.first[link];
        }

        /** The i-th link of a node's way, or NONE. */
        int stepAt(Talk talk, int node, int i) {
            if (i >= MOST_NODES) {
                return NONE;
            }
            int at = node;
            int link = firstStep(talk, at);
            for (int step = 0; step < i && link >= 0; step++) {
                at = nextNode(talk, link, at);
                link = firstStep(talk, at);
            }
            return link;
        }

        /** All links of a node's way; none, if it has none. */
        int linksFrom(Talk talk, int node) {
            int set = 0;
            int at = node;
            for (int step = 0; step < MOST_NODES; step++) {
                int link = firstStep(talk, at);
                if (link < 0) {
                    break;
                }
                set |= 1 << link;
                at = nextNode(talk, link, at);
            }
            return set;
        }
    }

    /** What changes MEMBERS and TREE. */
    private static final class Builder {
        final Ways ways = new Ways();

        void join(Talk talk, int node) {
            ways.find(talk, talk.tree);
            talk.members |= 1 << node;
            talk.tree |= ways.linksFrom(talk, node);
        }

        void leave(Talk talk, int node) {
            talk.members &= ~(1 << node);
            talk.prune();
        }

        /** Marks whoever joined or left, and rearranges, if that makes marks enough. */
        void mark(Talk talk, int node) {
            talk.turnMark(node);
            if (talk.limit != 0 && talk.markCount >= talk.limit) {
                rearrange(talk);
            }
        }

        void rearrange(Talk talk) {
            int anew = anew(talk);
            if (talk.costOf(anew) < talk.costOf(talk.tree)) {
                talk.tree = anew;
            }
            talk.markCount = 0;
        }

        /** The links of ANEW. */
        int anew(Talk talk) {
            int tree = 0;
            for (int round = 0; round < talk.nodes; round++) {
                ways.find(talk, tree);
                int next = nearest(talk, talk.members & ~talk.nodesOf(tree));
                if (next < 0) {
                    break;
                }
                tree |= ways.linksFrom(talk, next);
            }
            return tree;
        }

        /** Of these nodes the one whose way costs least, of several the lowest; or NONE. */
        private int nearest(Talk talk, int wanted) {
            int found = NONE;
            for (int node = 0; node < talk.nodes; node++) {
                if (has(wanted, node) && ways.reach(node)
                        && (found < 0 || ways.costFrom(node) < ways.costFrom(found))) {
                    found = node;
                }
            }
            return found;
        }

        /** Answers how many members are LOST. */
        int cut(Talk talk, int link) {
            talk.down |= 1 << link;
            if (!has(talk.tree, link)) {
                return 0;
            }
            int before = Integer.bitCount(talk.members);
            keepHanging(talk, talk.tree & ~(1 << link));
            joinAgain(talk);
            talk.prune();
            return before - Integer.bitCount(talk.members);
        }

        private static void keepHanging(Talk talk, int others) {
            int reached = talk.hangingBy(others);
            talk.tree = 0;
            for (int link = 0; link < talk.links; link++) {
                if (has(others, link) && (talk.ends(link) & reached) != 0) {
                    talk.tree |= 1 << link;
                }
            }
        }

        private void joinAgain(Talk talk) {
            for (int node = 0; node < talk.nodes; node++) {
                if (talk.isMember(node)) {
                    ways.find(talk, talk.tree);
                    talk.tree |= ways.linksFrom(talk, node);
                    if (!ways.reach(node)) {
                        talk.members &= ~(1 << node);
                    }
                }
            }
        }
    }

    /**
     * LEAST. As all costs are above 0, it is a tree over some nodes, SOURCE and MEMBERS among them:
     * of each such set of nodes the least tree is grown from SOURCE, link by link.
     */
    private static final class Least {
        /** The links of LEAST; TREE is one of the sets to choose from, so that there always is one. */
        static int of(Talk talk) {
            int wanted = talk.members | 1 << talk.source;
            int least = talk.tree;
            for (int over = wanted; over < 1 << talk.nodes; over++) {
                if ((over & wanted) == wanted) {
                    int grown = grow(talk, over);
                    if (talk.nodesOf(grown) == over && isLess(talk, grown, least)) {
                        least = grown;
                    }
                }
            }
            return least;
        }

        private static boolean isLess(Talk talk, int set, int other) {
            int less = talk.costOf(set) - talk.costOf(other);
            return less < 0 || (less == 0 && set < other);
        }

        /**
         * Takes the cheapest link that leads on, of several the lowest: as if link i had the cost
         * cost[i] and a tiny bit more, 2 to the i; then no two trees cost the same, and the least
         * one is that of least cost, of several the least as bits.
         */
        private static int grow(Talk talk, int over) {
            int set = 0;
            int reached = 1 << talk.source;
            for (int round = 1; round < talk.nodes; round++) {
                int link = cheapestOn(talk, reached, over & ~reached);
                if (link < 0) {
                    break;
                }
                set |= 1 << link;
                reached |= talk.ends(link);
            }
            return set;
        }

        private static int cheapestOn(Talk talk, int reached, int outside) {
            int found = NONE;
            int up = talk.upLinks();
            for (int link = 0; link < talk.links; link++) {
                int ends = talk.ends(link);
                boolean on = has(up, link) && (ends & reached) != 0 && (ends & outside) != 0;
                if (on && (found < 0 || talk.cost[link] < talk.cost[found])) {
                    found = link;
                }
            }
            return found;
        }
    }

    /** THE TEXT, and how it is read. */
    private static final class Text {
        private static final int END = 0, WORD = 1, FIGURES = 2, SEMICOLON = 3, OTHER = 4;
        private static final int ABOVE_FAULTS = -10;

        final int[] letters = new int[MOST_LETTERS];
        int length;

        /** The token read last: where it begins, what is behind it, what it is. */
        private int start;
        private int end;
        private int kind;
        private int figure;
        private boolean sourceTold;

        boolean append(int letter) {
            if (length >= MOST_LETTERS) {
                return false;
            }
            letters[length] = letter;
            length++;
            return true;
        }

        /** Answers how many letters there were. */
        int empty() {
            int before = length;
            length = 0;
            return before;
        }

        /** Answers how many items there are, or -10 less FAULT; then the talk is of no use. */
        int read(Talk talk) {
            talk.beAsAtFirst();
            sourceTold = false;
            end = 0;
            takeToken();
            int items = 0;
            while (kind != END && items < MOST_LETTERS) {
                if (!readItem(talk, items)) {
                    return ABOVE_FAULTS - start;
                }
                items++;
                takeToken();
            }
            return items;
        }

        /** From the item's word, that is taken already, on; false: the token taken last is at fault. */
        private boolean readItem(Talk talk, int itemsAhead) {
            boolean right = false;
            if (isWord("nodes")) {
                right = itemsAhead == 0 && readNodes(talk);
            } else if (isWord("source")) {
                right = !sourceTold && readSource(talk);
            } else if (isWord("limit")) {
                right = readLimit(talk);
            } else if (isWord("link")) {
                right = talk.links < MOST_LINKS && readLink(talk);
            }
            return right && takeSemicolon();
        }

        private boolean readNodes(Talk talk) {
            if (!takeFigure(LEAST_NODES, MOST_NODES)) {
                return false;
            }
            talk.nodes = figure;
            return true;
        }

        private boolean readSource(Talk talk) {
            if (!takeFigure(0, talk.nodes - 1)) {
                return false;
            }
            talk.source = figure;
            sourceTold = true;
            return true;
        }

        private boolean readLimit(Talk talk) {
            if (!takeFigure(0, MOST_LIMIT)) {
                return false;
            }
            talk.limit = figure;
            return true;
        }

        private boolean readLink(Talk talk) {
            if (!takeFigure(0, talk.nodes - 1)) {
                return false;
            }
            int from = figure;
            if (!takeFigure(0, talk.nodes - 1) || figure == from || talk.areLinked(from, figure)) {
                return false;
            }
            int to = figure;
            if (!takeFigure(LEAST_COST, MOST_COST)) {
                return false;
            }
            talk.addLink(from, to, figure);
            return true;
        }

        private boolean takeSemicolon() {
            takeToken();
            return kind == SEMICOLON;
        }

        private boolean takeFigure(int least, int most) {
            takeToken();
            if (kind != FIGURES || end - start != 1) {
                return false;
            }
            figure = letters[start] - '0';
            return figure >= least && figure <= most;
        }

        private void takeToken() {
            start = end;
            while (start < length && letters[start] == ' ') {
                start++;
            }
            end = start;
            if (start >= length) {
                kind = END;
            } else if (isFigure(start)) {
                while (end < length && isFigure(end)) {
                    end++;
                }
                kind = FIGURES;
            } else if (isSmallLetter(start)) {
                while (end < length && isSmallLetter(end)) {
                    end++;
                }
                kind = WORD;
            } else {
                end++;
                kind = letters[start] == ';' ? SEMICOLON : OTHER;
            }
        }

        private boolean isFigure(int place) {
            return letters[place] >= '0' && letters[place] <= '9';
        }

        private boolean isSmallLetter(int place) {
            return letters[place] >= 'a' && letters[place] <= 'z';
        }

        /** Whether the token read last is this word. */
        private boolean isWord(String word) {
            if (kind != WORD || end - start != word.length()) {
                return false;
            }
            for (int i = 0; i < word.length(); i++) {
                if (letters[start + i] != word.charAt(i)) {
                    return false;
                }
            }
            return true;
        }
    }

    /** What can be UNDONE: a ring, in which the oldest gives way. */
    private static final class Past {
        final Talk[] known = new Talk[MOST_UNDONE];
        int size;
        private int next;

        Past() {
            for (int i = 0; i < MOST_UNDONE; i++) {
                known[i] = new Talk();
            }
        }

        void remember(Talk talk) {
            known[next].become(talk);
            next = (next + 1) % MOST_UNDONE;
            size = Math.min(size + 1, MOST_UNDONE);
        }

        /** False: nothing can be undone. */
        boolean recall(Talk talk) {
            if (size == 0) {
                return false;
            }
            next = (next + MOST_UNDONE - 1) % MOST_UNDONE;
            size--;
            talk.become(known[next]);
            return true;
        }

        void drop() {
            size = 0;
        }
    }

    /** What was SEEN. */
    private static final class Sights {
        final int[] whats = new int[MOST_SEEN];
        final int[] numbers = new int[MOST_SEEN];
        int size;

        boolean add(int what, int number) {
            if (size >= MOST_SEEN) {
                return false;
            }
            whats[size] = what;
            numbers[size] = number;
            size++;
            return true;
        }

        /** Answers how much there was. */
        int empty() {
            int before = size;
            size = 0;
            return before;
        }

        /** Whether all that was SEEN is so of a node whose way has this cost and these links. */
        boolean fit(int cost, int steps) {
            for (int i = 0; i < size; i++) {
                if (numbers[i] != (whats[i] == 0 ? cost : steps)) {
                    return false;
                }
            }
            return true;
        }
    }
}
