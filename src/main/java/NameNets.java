import java.util.Arrays;

/**
 * Posts of a net get short names, and from two names alone questions about both are answered.
 * The document's promises tell what each call answers; refusals are looked at in the document's order.
 */
public final class NameNets {
    public static final int NONE = -1, UNKNOWN = -1001, OUTSIDE = -1002, NOT = -1003, FULL = -1004, DAMAGED = -1005;

    private static final int MOST_POSTS = 12;
    private static final int MOST_LINES = 30;
    private static final int MOST_FAILING = 6;
    private static final int MOST_CUT = 3;
    private static final int ABOVE = 0, JOINED = 1, FAR = 2, PARTED = 3;
    private static final int NEXT = 4;
    private static final int NAMED_KINDS = 3;
    private static final int MOST_FORGED = 99;
    private static final int ITS_CHECK = -2;
    private static final int MOST_SMALL = 5;
    private static final int MOST_UNIVERSAL = 3;
    private static final int MOST_TEXT = 200;
    private static final int MOST_QUESTIONS = 12;

    private final Net graph;
    private final Tree tree;
    private final Labels labels;
    private final Page[] pages;
    private final Parcels parcels;
    private final Cuts cuts;
    private final SmallNets smallNets;
    private final Script script;

    public NameNets() {
        graph = new Net();
        tree = new Tree(graph);
        labels = new Labels(graph, tree);
        pages = new Page[NAMED_KINDS];
        for (int kind = 0; kind < NAMED_KINDS; kind++) {
            pages[kind] = new Page(kind);
        }
        parcels = new Parcels(graph, tree, labels);
        cuts = new Cuts(graph, tree);
        smallNets = new SmallNets();
        script = new Script(graph);
    }

    // ---- the net

    public int net(int n) {
        if (n < 1 || n > MOST_POSTS) {
            return OUTSIDE;
        }
        graph.begin(n);
        return 1;
    }

    public int post() {
        if (graph.posts >= MOST_POSTS) {
            return FULL;
        }
        return graph.addPost();
    }

    public int line(int a, int b) {
        if (!graph.hasPosts(a, b)) {
            return UNKNOWN;
        }
        if (a == b) {
            return OUTSIDE;
        }
        if (graph.joins(a, b)) {
            return NOT;
        }
        if (graph.size >= MOST_LINES) {
            return FULL;
        }
        return graph.addLine(a, b);
    }

    public int strike(int l) {
        if (!graph.hasLine(l)) {
            return UNKNOWN;
        }
        graph.removeLine(l);
        return graph.size;
    }

    public int count(int what) {
        switch (what) {
            case 0: return graph.posts;
            case 1: return graph.size;
            case 2: return graph.posts - tree.fresh().roots;
            case 3: return tree.fresh().roots;
            case 4: return kindsLearned();
            case 5: return script.length;
            case 6: return script.answers;
            case 7: return graph.mostLines();
            default: return OUTSIDE;
        }
    }

    public int told(int p, int what) {
        if (!graph.hasPost(p)) {
            return UNKNOWN;
        }
        switch (what) {
            case 0: return tree.fresh().above[p];
            case 1: return tree.fresh().root[p];
            case 2: return graph.degree(p);
            case 3: return tree.fresh().depth(p);
            case 4: return labels.turnOf(p);
            case 5: return labels.rankOf(p);
            default: return OUTSIDE;
        }
    }

    public int lines(int l, int what) {
        if (!graph.hasLine(l)) {
            return UNKNOWN;
        }
        switch (what) {
            case 0: return graph.from[l];
            case 1: return graph.to[l];
            case 2: return tree.fresh().ownLines >> l & 1;
            case 3: return tree.fresh().lineNames[l];
            default: return OUTSIDE;
        }
    }

    // ---- names

    public int name(int kind, int p, int k) {
        if (!graph.hasPost(p)) {
            return UNKNOWN;
        }
        if (kind == PARTED) {
            return k == NONE ? 1 : k == 0 ? tree.fresh().path[p] : NONE;
        }
        if (!isNamedKind(kind)) {
            return OUTSIDE;
        }
        return labels.now(kind).number(p, k);
    }

    public int bits(int kind, int what) {
        if (!isNamedKind(kind) && kind != PARTED) {
            return OUTSIDE;
        }
        if (what < 0 || what > 2) {
            return OUTSIDE;
        }
        int longest = NONE;
        int all = 0;
        int first = NONE;
        for (int p = 0; p < graph.posts; p++) {
            int own = bitsOf(kind, p);
            all += own;
            if (own > longest) {
                longest = own;
                first = p;
            }
        }
        return what == 0 ? longest : what == 1 ? all : first;
    }

    public int ask(int kind, int a, int b) {
        if (!graph.hasPosts(a, b)) {
            return UNKNOWN;
        }
        if (!isNamedKind(kind)) {
            return OUTSIDE;
        }
        return labels.now(kind).reply(a, b);
    }

    public int parted(int a, int b, int set) {
        if (!graph.hasPosts(a, b) || !graph.hasLines(set)) {
            return UNKNOWN;
        }
        if (Integer.bitCount(set) > MOST_FAILING) {
            return OUTSIDE;
        }
        return cuts.parts(a, b, set) ? 1 : 0;
    }

    // ---- the book

    public int learn(int kind) {
        if (!isNamedKind(kind)) {
            return OUTSIDE;
        }
        Names now = labels.now(kind);
        int others = Integer.bitCount(pages[kind].unlike(now));
        pages[kind].take(now);
        return others;
    }

    public int forge(int kind, int p, int k, int v) {
        if (!isNamedKind(kind)) {
            return OUTSIDE;
        }
        Page page = pages[kind];
        if (!page.has(p)) {
            return UNKNOWN;
        }
        if (!page.names.has(p, k) || v < 0 || v > MOST_FORGED) {
            return OUTSIDE;
        }
        int was = page.names.number(p, k);
        page.names.put(p, k, v);
        return was;
    }

    public int book(int kind, int p, int k) {
        if (!isNamedKind(kind)) {
            return OUTSIDE;
        }
        Page page = pages[kind];
        if (!page.has(p)) {
            return UNKNOWN;
        }
        return k == ITS_CHECK ? page.checks[p] : page.names.number(p, k);
    }

    public int answer(int kind, int a, int b) {
        if (!isNamedKind(kind)) {
            return OUTSIDE;
        }
        Page page = pages[kind];
        if (!page.has(a) || !page.has(b)) {
            return UNKNOWN;
        }
        if (!page.isRight(a) || !page.isRight(b)) {
            return DAMAGED;
        }
        return page.names.reply(a, b);
    }

    public int stale(int kind) {
        if (!isNamedKind(kind)) {
            return OUTSIDE;
        }
        if (!pages[kind].learned) {
            return NOT;
        }
        return pages[kind].unlike(labels.now(kind));
    }

    public int damaged(int kind) {
        if (!isNamedKind(kind)) {
            return OUTSIDE;
        }
        if (!pages[kind].learned) {
            return NOT;
        }
        return pages[kind].wrongChecks();
    }

    // ---- parcels, cuts

    public int next(int a, int b) {
        return graph.hasPosts(a, b) ? parcels.step(a, b) : UNKNOWN;
    }

    public int goes(int a, int b) {
        return graph.hasPosts(a, b) ? parcels.length(a, b) : UNKNOWN;
    }

    public int stretch(int what) {
        switch (what) {
            case 0: return parcels.fresh().upper;
            case 1: return parcels.fresh().lower;
            case 2: return parcels.fresh().from;
            case 3: return parcels.fresh().to;
            default: return OUTSIDE;
        }
    }

    public int cut(int a, int b) {
        if (!graph.hasPosts(a, b)) {
            return UNKNOWN;
        }
        return a == b ? NOT : cuts.fewest(a, b);
    }

    public int ways(int a, int b) {
        if (!graph.hasPosts(a, b)) {
            return UNKNOWN;
        }
        return a == b ? NOT : cuts.separateWays(a, b);
    }

    // ---- small nets

    public int holds(int m, int h, int k, int g) {
        if (!SmallNets.isOne(m, h) || !SmallNets.isOne(k, g)) {
            return OUTSIDE;
        }
        return smallNets.contains(m, h, k, g) ? 1 : 0;
    }

    public int universal(int k, int m, int what) {
        if (k < 1 || k > MOST_UNIVERSAL || m < 1 || m > MOST_SMALL || what < 0 || what > 1) {
            return OUTSIDE;
        }
        return what == 0 ? smallNets.countUniversal(k, m) : smallNets.leastUniversal(k, m);
    }

    public int small() {
        return graph.posts > MOST_SMALL ? NOT : SmallNets.numberOf(graph);
    }

    // ---- scripts

    public int feed(int n, long bytes) {
        if (n < 1 || n > 8) {
            return OUTSIDE;
        }
        if (script.length + n > MOST_TEXT) {
            return FULL;
        }
        return script.append(n, bytes);
    }

    public int read() {
        int number = script.readAll();
        if (number != 0) {
            return -10 - number;
        }
        script.answers = script.questions;
        for (int i = 0; i < script.questions; i++) {
            script.replies[i] = replyTo(script.asked[i], script.first[i], script.second[i], script.failing[i]);
        }
        return script.answers;
    }

    public int fault() {
        return script.faultAt;
    }

    public int said(int i) {
        return i < 0 || i >= script.answers ? UNKNOWN : script.replies[i];
    }

    private static boolean isNamedKind(int kind) {
        return kind >= 0 && kind < NAMED_KINDS;
    }

    private int kindsLearned() {
        int learned = 0;
        for (int kind = 0; kind < NAMED_KINDS; kind++) {
            learned += pages[kind].learned ? 1 : 0;
        }
        return learned;
    }

    private int replyTo(int asked, int a, int b, int failing) {
        if (asked == NEXT) {
            return parcels.step(a, b);
        }
        if (asked == PARTED) {
            return cuts.parts(a, b, failing) ? 1 : 0;
        }
        return isNamedKind(asked) ? labels.now(asked).reply(a, b) : NONE;
    }

    private int bitsOf(int kind, int p) {
        if (kind == PARTED) {
            return graph.posts - tree.fresh().roots;
        }
        int figures = 1;
        for (int rest = (graph.posts - 1) >> 1; rest > 0; rest >>= 1) {
            figures++;
        }
        return figures * labels.now(kind).sizes[p];
    }

    /** The posts and the lines between them. */
    private static final class Net {
        int posts = 1;
        int size = 0;
        /** Counts what was changed, so that what is worked out from the net knows whether it still holds. */
        int changes = 0;
        final int[] from = new int[MOST_LINES];
        final int[] to = new int[MOST_LINES];
        /** Of each post the set of its neighbours. */
        final int[] near = new int[MOST_POSTS];

        Net() {
        }

        boolean hasPost(int p) {
            return p >= 0 && p < posts;
        }

        boolean hasPosts(int a, int b) {
            return hasPost(a) && hasPost(b);
        }

        boolean hasLine(int l) {
            return l >= 0 && l < size;
        }

        boolean hasLines(int set) {
            return set >>> size == 0;
        }

        boolean joins(int a, int b) {
            return (near[a] >> b & 1) == 1;
        }

        int degree(int p) {
            return Integer.bitCount(near[p]);
        }

        int mostLines() {
            int most = 0;
            for (int p = 0; p < posts; p++) {
                most = Math.max(most, degree(p));
            }
            return most;
        }

        /** The line between two posts; NONE, if they are not joined. */
        int lineBetween(int a, int b) {
            for (int l = 0; l < size; l++) {
                if (from[l] == a && to[l] == b || from[l] == b && to[l] == a) {
                    return l;
                }
            }
            return NONE;
        }

        void begin(int n) {
            posts = n;
            size = 0;
            Arrays.fill(near, 0);
            changes++;
        }

        int addPost() {
            changes++;
            posts++;
            return posts - 1;
        }

        int addLine(int a, int b) {
            from[size] = a;
            to[size] = b;
            near[a] |= 1 << b;
            near[b] |= 1 << a;
            changes++;
            size++;
            return size - 1;
        }

        void removeLine(int l) {
            near[from[l]] &= ~(1 << to[l]);
            near[to[l]] &= ~(1 << from[l]);
            for (int k = l; k < size - 1; k++) {
                from[k] = from[k + 1];
                to[k] = to[k + 1];
            }
            changes++;
            size--;
        }
    }

    /** The tree of the net, and what is told by way of it: the numbers of KIND 0 and KIND 3. */
    private static final class Tree {
        final Net net;
        int roots = 0;
        /** The set of lines that are of the tree. */
        int ownLines = 0;
        final int[] above = new int[MOST_POSTS];
        final int[] root = new int[MOST_POSTS];
        /** Of each post the set of the tree's lines between it and its root. */
        final int[] path = new int[MOST_POSTS];
        final int[] enter = new int[MOST_POSTS];
        final int[] leave = new int[MOST_POSTS];
        final int[] lineNames = new int[MOST_LINES];
        /** The posts as they came in, and how many did. */
        private final int[] order = new int[MOST_POSTS];
        private int placed = 0;
        private int inside = 0;
        private final int[] weight = new int[MOST_POSTS];
        private int madeAt = NONE;

        Tree(Net net) {
            this.net = net;
        }

        /** The tree as it is by the net now. */
        Tree fresh() {
            if (madeAt != net.changes) {
                madeAt = net.changes;
                clear();
                for (int p = 0; p < net.posts; p++) {
                    if ((inside >> p & 1) == 0) {
                        growFrom(p);
                    }
                }
                numberPosts();
                nameLines();
            }
            return this;
        }

        int depth(int p) {
            return Integer.bitCount(path[p]);
        }

        boolean isAbove(int a, int b) {
            return enter[b] >= enter[a] && enter[b] <= leave[a];
        }

        private void clear() {
            roots = 0;
            ownLines = 0;
            placed = 0;
            inside = 0;
        }

        private void growFrom(int start) {
            int first = placed;
            roots++;
            above[start] = NONE;
            root[start] = start;
            path[start] = 0;
            place(start);
            for (int i = first; i < placed && i < net.posts; i++) {
                int p = order[i];
                for (int q = 0; q < net.posts; q++) {
                    if (net.joins(p, q) && (inside >> q & 1) == 0) {
                        int own = 1 << net.lineBetween(p, q);
                        ownLines |= own;
                        above[q] = p;
                        root[q] = start;
                        path[q] = path[p] | own;
                        place(q);
                    }
                }
            }
        }

        private void place(int p) {
            inside |= 1 << p;
            order[placed] = p;
            placed++;
        }

        /**
         * ENTER and LEAVE without going down and up: posts below one came in by numbers, so each takes
         * the next free stretch behind the one above it, as long as it has posts below it.
         */
        private void numberPosts() {
            Arrays.fill(weight, 1);
            for (int i = placed - 1; i >= 0; i--) {
                int p = order[i];
                if (above[p] != NONE) {
                    weight[above[p]] += weight[p];
                }
            }
            int free = 0;
            for (int i = 0; i < placed; i++) {
                int p = order[i];
                int up = above[p];
                // until all below it have come, LEAVE of a post tells where the last of these ended
                enter[p] = up == NONE ? free : leave[up] + 1;
                leave[p] = enter[p];
                if (up == NONE) {
                    free += weight[p];
                } else {
                    leave[up] += weight[p];
                }
            }
        }

        private void nameLines() {
            Arrays.fill(lineNames, 0);
            for (int spare = 0; spare < net.size; spare++) {
                if ((ownLines >> spare & 1) == 0) {
                    int named = (path[net.from[spare]] ^ path[net.to[spare]]) | 1 << spare;
                    for (int l = 0; l < net.size; l++) {
                        lineNames[l] |= (named >> l & 1) << spare;
                    }
                }
            }
        }
    }

    /** The names of one kind, 0 to 2, of some posts, and what they answer by themselves. */
    private static final class Names {
        final int kind;
        final int width;
        int posts = 0;
        final int[] sizes = new int[MOST_POSTS];
        private final int[] numbers;

        Names(int kind) {
            this.kind = kind;
            width = kind == ABOVE ? 2 : kind == JOINED ? MOST_POSTS : 2 * MOST_POSTS;
            numbers = new int[MOST_POSTS * width];
        }

        void begin(int n) {
            posts = n;
            Arrays.fill(sizes, 0);
        }

        boolean has(int p, int k) {
            return k >= 0 && k < sizes[p];
        }

        /** Number k of a name; how many there are for NONE; NONE for one that there is not. */
        int number(int p, int k) {
            if (k == NONE) {
                return sizes[p];
            }
            return k >= 0 && k < sizes[p] ? numbers[p * width + k] : NONE;
        }

        void put(int p, int k, int v) {
            if (has(p, k)) {
                numbers[p * width + k] = v;
            }
        }

        void append(int p, int v) {
            if (sizes[p] < width) {
                numbers[p * width + sizes[p]] = v;
                sizes[p]++;
            }
        }

        void copy(Names other) {
            begin(other.posts);
            for (int p = 0; p < posts; p++) {
                for (int k = 0; k < other.sizes[p]; k++) {
                    append(p, other.number(p, k));
                }
            }
        }

        boolean isLike(Names other, int p) {
            if (p >= posts || p >= other.posts || sizes[p] != other.sizes[p]) {
                return false;
            }
            for (int k = 0; k < sizes[p]; k++) {
                if (number(p, k) != other.number(p, k)) {
                    return false;
                }
            }
            return true;
        }

        int reply(int a, int b) {
            if (kind == ABOVE) {
                return isAbove(a, b) ? 1 : 0;
            }
            if (kind == JOINED) {
                return standsBehind(a, b) || standsBehind(b, a) ? 1 : 0;
            }
            return distance(a, b);
        }

        private boolean isAbove(int a, int b) {
            int entered = number(b, 0);
            return entered >= number(a, 0) && entered <= number(a, 1);
        }

        private boolean standsBehind(int a, int b) {
            int turn = number(a, 0);
            for (int k = 1; k < sizes[b]; k++) {
                if (number(b, k) == turn) {
                    return true;
                }
            }
            return false;
        }

        /** Each pair is looked at, as forged names need not rise and may have a rank twice. */
        int distance(int a, int b) {
            int least = NONE;
            for (int i = 0; i < sizes[a]; i += 2) {
                for (int j = 0; j < sizes[b]; j += 2) {
                    if (number(a, i) == number(b, j)) {
                        int sum = number(a, i + 1) + number(b, j + 1);
                        least = least == NONE ? sum : Math.min(least, sum);
                    }
                }
            }
            return least;
        }
    }

    /** The names of KINDS 0 to 2 by the net now, each worked out when it is first asked for. */
    private static final class Labels {
        private final Net net;
        private final Tree tree;
        private final Names[] rows = new Names[NAMED_KINDS];
        private final int[] madeAt = new int[NAMED_KINDS];
        private final int[] turns = new int[MOST_POSTS];
        private final int[] taken = new int[MOST_POSTS];
        private final int[] ranks = new int[MOST_POSTS];
        private final int[] hubs = new int[MOST_POSTS];
        private final int[] queue = new int[MOST_POSTS];
        private final int[] reached = new int[MOST_POSTS];

        Labels(Net net, Tree tree) {
            this.net = net;
            this.tree = tree;
            for (int kind = 0; kind < NAMED_KINDS; kind++) {
                rows[kind] = new Names(kind);
                madeAt[kind] = NONE;
            }
        }

        /** The names of a kind, 0 to 2. */
        Names now(int kind) {
            Names names = rows[kind];
            if (madeAt[kind] != net.changes) {
                madeAt[kind] = net.changes;
                names.begin(net.posts);
                if (kind == ABOVE) {
                    nameAbove(names);
                } else if (kind == JOINED) {
                    nameJoined(names);
                } else {
                    nameFar(names);
                }
            }
            return names;
        }

        int turnOf(int p) {
            now(JOINED);
            return turns[p];
        }

        int rankOf(int p) {
            now(FAR);
            return ranks[p];
        }

        private void nameAbove(Names names) {
            Tree grown = tree.fresh();
            for (int p = 0; p < net.posts; p++) {
                names.append(p, grown.enter[p]);
                names.append(p, grown.leave[p]);
            }
        }

        private void nameJoined(Names names) {
            int left = (1 << net.posts) - 1;
            for (int turn = 0; turn < net.posts; turn++) {
                int p = fewestLines(left);
                turns[p] = turn;
                taken[turn] = p;
                left &= ~(1 << p);
            }
            for (int p = 0; p < net.posts; p++) {
                names.append(p, turns[p]);
                for (int later = turns[p] + 1; later < net.posts; later++) {
                    if (net.joins(p, taken[later])) {
                        names.append(p, later);
                    }
                }
            }
        }

        private int fewestLines(int left) {
            int found = 0;
            int fewest = MOST_POSTS;
            for (int p = 0; p < net.posts; p++) {
                int own = Integer.bitCount(net.near[p] & left);
                if ((left >> p & 1) == 1 && own < fewest) {
                    found = p;
                    fewest = own;
                }
            }
            return found;
        }

        private void nameFar(Names names) {
            int left = (1 << net.posts) - 1;
            for (int rank = 0; rank < net.posts; rank++) {
                int p = mostLines(left);
                ranks[p] = rank;
                hubs[rank] = p;
                left &= ~(1 << p);
            }
            for (int rank = 0; rank < net.posts; rank++) {
                spread(names, hubs[rank]);
            }
        }

        private int mostLines(int left) {
            int found = 0;
            int most = NONE;
            for (int p = 0; p < net.posts; p++) {
                if ((left >> p & 1) == 1 && net.degree(p) > most) {
                    found = p;
                    most = net.degree(p);
                }
            }
            return found;
        }

        /** Breadth first from a hub, but not past posts whose distance the earlier hubs tell already. */
        private void spread(Names names, int hub) {
            int come = 1 << hub;
            int filled = 1;
            queue[0] = hub;
            reached[hub] = 0;
            for (int i = 0; i < filled && i < net.posts; i++) {
                int p = queue[i];
                int known = names.distance(p, hub);
                if (known != NONE && known <= reached[p]) {
                    continue;
                }
                names.append(p, ranks[hub]);
                names.append(p, reached[p]);
                for (int q = 0; q < net.posts; q++) {
                    if (net.joins(p, q) && (come >> q & 1) == 0) {
                        come |= 1 << q;
                        reached[q] = reached[p] + 1;
                        queue[filled] = q;
                        filled++;
                    }
                }
            }
        }
    }

    /** The names of one kind in the book, as they were learned or forged since, with their checks. */
    private static final class Page {
        boolean learned = false;
        final Names names;
        final int[] checks = new int[MOST_POSTS];

        Page(int kind) {
            names = new Names(kind);
        }

        boolean has(int p) {
            return p >= 0 && p < names.posts;
        }

        void take(Names now) {
            learned = true;
            names.copy(now);
            for (int p = 0; p < names.posts; p++) {
                checks[p] = checkOf(p);
            }
        }

        boolean isRight(int p) {
            return checks[p] == checkOf(p);
        }

        int wrongChecks() {
            int wrong = 0;
            for (int p = 0; p < names.posts; p++) {
                wrong += isRight(p) ? 0 : 1;
            }
            return wrong;
        }

        /** The set of posts whose names here are not those, or that are only here or only there. */
        int unlike(Names now) {
            int set = 0;
            for (int p = 0; p < Math.max(names.posts, now.posts); p++) {
                if (!names.isLike(now, p)) {
                    set |= 1 << p;
                }
            }
            return set;
        }

        private int checkOf(int p) {
            int sum = 7 * names.sizes[p];
            for (int k = 0; k < names.sizes[p]; k++) {
                sum += names.number(p, k) * (k + 1);
            }
            return sum % 101;
        }
    }

    /** Parcels, which go along the tree by names of KIND 0. */
    private static final class Parcels {
        private final Net net;
        private final Tree tree;
        private final Labels labels;
        int upper = 0;
        int lower = 1;
        int from = NONE;
        int to = NONE;
        private int madeAt = NONE;

        Parcels(Net net, Tree tree, Labels labels) {
            this.net = net;
            this.tree = tree;
            this.labels = labels;
        }

        /** Where a parcel for b goes on from a. */
        int step(int a, int b) {
            Tree grown = tree.fresh();
            if (a == b) {
                return b;
            }
            if (grown.root[a] != grown.root[b]) {
                return NONE;
            }
            if (!grown.isAbove(a, b)) {
                return grown.above[a];
            }
            for (int p = 0; p < net.posts; p++) {
                if (grown.above[p] == a && grown.isAbove(p, b)) {
                    return p;
                }
            }
            return NONE;
        }

        /** A parcel goes up and down by just those lines that are on the way of one end to the root. */
        int length(int a, int b) {
            Tree grown = tree.fresh();
            if (grown.root[a] != grown.root[b]) {
                return NONE;
            }
            return Integer.bitCount(grown.path[a] ^ grown.path[b]);
        }

        /** The stretch as it is by the net now. */
        Parcels fresh() {
            if (madeAt != net.changes) {
                madeAt = net.changes;
                findStretch(labels.now(FAR));
                reduce();
            }
            return this;
        }

        private void findStretch(Names names) {
            upper = 0;
            lower = 1;
            from = NONE;
            to = NONE;
            for (int a = 0; a < net.posts; a++) {
                for (int b = 0; b < net.posts; b++) {
                    int length = length(a, b);
                    if (a != b && length != NONE) {
                        offer(a, b, length, names.distance(a, b));
                    }
                }
            }
        }

        private void offer(int a, int b, int length, int distance) {
            if (length * lower > upper * distance) {
                upper = length;
                lower = distance;
                from = a;
                to = b;
            }
        }

        private void reduce() {
            // going down, the first divisor of both is the greatest, so no other is met after it
            for (int d = lower; d > 1; d--) {
                if (upper % d == 0 && lower % d == 0) {
                    upper /= d;
                    lower /= d;
                }
            }
        }
    }

    /** Lines that fail: whether they part two posts, the fewest that do, and how many ways there are. */
    private static final class Cuts {
        private final Net net;
        private final Tree tree;
        /** Of each post the set of those to which one more way can still go on. */
        private final int[] open = new int[MOST_POSTS];
        private final int[] queue = new int[MOST_POSTS];
        private final int[] cameFrom = new int[MOST_POSTS];

        Cuts(Net net, Tree tree) {
            this.net = net;
            this.tree = tree;
        }

        /** By names alone: some subset of the lines is a cut of the net that has a and b on unlike sides. */
        boolean parts(int a, int b, int set) {
            Tree grown = tree.fresh();
            if (grown.root[a] != grown.root[b]) {
                return true;
            }
            int between = grown.path[a] ^ grown.path[b];
            // each subset is less than the one before, so the last one, 0, is come to
            for (int subset = set; subset > 0; subset = (subset - 1) & set) {
                if (Integer.bitCount(subset & between) % 2 == 1 && namesGiveNothing(subset)) {
                    return true;
                }
            }
            return false;
        }

        private boolean namesGiveNothing(int subset) {
            int sum = 0;
            for (int l = 0; l < net.size; l++) {
                if ((subset >> l & 1) == 1) {
                    sum ^= tree.lineNames[l];
                }
            }
            return sum == 0;
        }

        int fewest(int a, int b) {
            Tree grown = tree.fresh();
            if (grown.root[a] != grown.root[b]) {
                return 0;
            }
            int between = grown.path[a] ^ grown.path[b];
            for (int many = 1; many <= MOST_CUT; many++) {
                int found = search(0, many, 0, 0, between);
                if (found != NONE) {
                    return found;
                }
            }
            return NONE;
        }

        /**
         * The first set of so many lines more, from a line on, that makes the names give 0 and an odd number
         * between; NONE, if there is none. Subsets need no look: as sets on their own they came earlier.
         */
        private int search(int first, int many, int sum, int odd, int between) {
            if (many <= 0) {
                return sum == 0 && odd == 1 ? 0 : NONE;
            }
            for (int l = first; l < net.size; l++) {
                int rest = search(l + 1, many - 1, sum ^ tree.lineNames[l], odd ^ (between >> l & 1), between);
                if (rest != NONE) {
                    return rest | 1 << l;
                }
            }
            return NONE;
        }

        int separateWays(int a, int b) {
            System.arraycopy(net.near, 0, open, 0, MOST_POSTS);
            for (int found = 0; found < MOST_POSTS; found++) {
                if (!reach(a, b)) {
                    return found;
                }
                takeWay(a, b);
            }
            return MOST_POSTS;
        }

        private boolean reach(int a, int b) {
            int come = 1 << a;
            int filled = 1;
            queue[0] = a;
            for (int i = 0; i < filled && i < net.posts; i++) {
                int p = queue[i];
                for (int q = 0; q < net.posts; q++) {
                    if ((open[p] >> q & 1) == 1 && (come >> q & 1) == 0) {
                        come |= 1 << q;
                        cameFrom[q] = p;
                        queue[filled] = q;
                        filled++;
                    }
                }
            }
            return (come >> b & 1) == 1;
        }

        /** Goes back along the way found; a line that an earlier way goes against it is on neither then. */
        private void takeWay(int a, int b) {
            int q = b;
            for (int steps = 0; steps < MOST_POSTS && q != a; steps++) {
                int p = cameFrom[q];
                if ((open[q] >> p & 1) == 1) {
                    open[p] &= ~(1 << q);
                } else {
                    open[q] |= 1 << p;
                }
                q = p;
            }
        }
    }

    /** Small nets, which are numbers: a bit for each pair of posts. */
    private static final class SmallNets {
        /** Two or three out of five. */
        private static final int MOST_GROUPS = 10;

        /** Of the net looked for: where its posts stand in the one that may hold it. */
        private final int[] seats = new int[MOST_SMALL];
        /** Of each group of as many posts as are asked for: the set of its pairs. */
        private final int[] groups = new int[MOST_GROUPS];
        private int chosen = 0;

        SmallNets() {
        }

        static boolean isOne(int m, int number) {
            return m >= 1 && m <= MOST_SMALL && number >= 0 && number < 1 << pairs(m);
        }

        static int pairs(int m) {
            return m * (m - 1) / 2;
        }

        static int pairBit(int i, int j) {
            return 1 << (pairs(Math.max(i, j)) + Math.min(i, j));
        }

        /** The number of a net with few enough posts. */
        static int numberOf(Net net) {
            int number = 0;
            for (int l = 0; l < net.size; l++) {
                number |= pairBit(net.from[l], net.to[l]);
            }
            return number;
        }

        boolean contains(int m, int h, int k, int g) {
            return k <= m && seat(m, h, k, g, 0);
        }

        private boolean seat(int m, int h, int k, int g, int placed) {
            if (placed >= k || placed >= MOST_SMALL) {
                return true;
            }
            for (int p = 0; p < m; p++) {
                seats[placed] = p;
                if (fits(h, g, placed) && seat(m, h, k, g, placed + 1)) {
                    return true;
                }
            }
            return false;
        }

        /** Whether the post placed last has a seat of its own and is joined to the earlier ones as it should. */
        private boolean fits(int h, int g, int last) {
            for (int i = 0; i < last; i++) {
                if (seats[i] == seats[last]) {
                    return false;
                }
                boolean due = (g & pairBit(i, last)) != 0;
                if (due != ((h & pairBit(seats[i], seats[last])) != 0)) {
                    return false;
                }
            }
            return true;
        }

        int countUniversal(int k, int m) {
            chooseGroups(k, m);
            int found = 0;
            for (int h = 0; h < 1 << pairs(m); h++) {
                found += isUniversal(k, h) ? 1 : 0;
            }
            return found;
        }

        int leastUniversal(int k, int m) {
            chooseGroups(k, m);
            for (int h = 0; h < 1 << pairs(m); h++) {
                if (isUniversal(k, h)) {
                    return h;
                }
            }
            return NONE;
        }

        private void chooseGroups(int k, int m) {
            chosen = 0;
            for (int members = 0; members < 1 << m && chosen < MOST_GROUPS; members++) {
                if (Integer.bitCount(members) == k) {
                    groups[chosen] = pairsWithin(members);
                    chosen++;
                }
            }
        }

        private static int pairsWithin(int members) {
            int set = 0;
            for (int j = 1; j < MOST_SMALL; j++) {
                for (int i = 0; i < j; i++) {
                    if ((members >> i & members >> j & 1) == 1) {
                        set |= pairBit(i, j);
                    }
                }
            }
            return set;
        }

        /**
         * Of up to three posts, nets with as many lines are one net but for the order of the posts:
         * so all are held, if each number of lines is met in some group of posts.
         */
        private boolean isUniversal(int k, int h) {
            int met = 0;
            for (int i = 0; i < chosen; i++) {
                met |= 1 << Integer.bitCount(h & groups[i]);
            }
            return met == (1 << (pairs(k) + 1)) - 1;
        }
    }

    /** The text, how it is read as a script, and the answers to the latest one without a fault. */
    private static final class Script {
        private static final int CANNOT_STAND = 1, TOO_LONG = 2, NOT_THERE = 3, TOO_MANY = 4;

        private final Net net;
        private final byte[] text = new byte[MOST_TEXT];
        int length = 0;
        /** The byte of the fault of the latest reading. */
        int faultAt = NONE;
        private int faultNumber = 0;
        private int at = 0;
        /** The questions read; they are no answers yet, as those of an earlier script stay if a fault comes. */
        int questions = 0;
        final int[] asked = new int[MOST_QUESTIONS];
        final int[] first = new int[MOST_QUESTIONS];
        final int[] second = new int[MOST_QUESTIONS];
        final int[] failing = new int[MOST_QUESTIONS];
        int answers = 0;
        final int[] replies = new int[MOST_QUESTIONS];

        Script(Net net) {
            this.net = net;
        }

        int append(int n, long bytes) {
            for (int i = n - 1; i >= 0 && length < MOST_TEXT; i--) {
                text[length] = (byte) (bytes >> 8 * i);
                length++;
            }
            return length;
        }

        /** Reads the text and empties it: the number of its fault, 0 without one. */
        int readAll() {
            at = 0;
            faultNumber = 0;
            faultAt = NONE;
            questions = 0;
            skipBlanks();
            for (int turn = 0; turn <= MOST_QUESTIONS && at < length && faultNumber == 0; turn++) {
                readQuestion();
                skipBlanks();
            }
            length = 0;
            return faultNumber;
        }

        private void fail(int number, int place) {
            faultNumber = number;
            faultAt = place;
        }

        private void skipBlanks() {
            while (at < length && text[at] == ' ') {
                at++;
            }
        }

        private boolean isFigure(int place) {
            return place < length && text[place] >= '0' && text[place] <= '9';
        }

        private boolean isLetter(int place) {
            return place < length && text[place] >= 'a' && text[place] <= 'z';
        }

        private void readQuestion() {
            int start = at;
            int word = readWord();
            if (word == NONE) {
                fail(CANNOT_STAND, start);
            } else if (questions >= MOST_QUESTIONS) {
                fail(TOO_MANY, start);
            } else {
                asked[questions] = word;
                failing[questions] = 0;
                readNumbers(word == PARTED ? 2 + MOST_FAILING : 2);
                questions++;
            }
        }

        /** What a word asks for; NONE, if no question begins with it. */
        private int readWord() {
            int start = at;
            while (at < length && isLetter(at)) {
                at++;
            }
            for (int word = ABOVE; word <= NEXT; word++) {
                if (isWord(wordFor(word), start)) {
                    return word;
                }
            }
            return NONE;
        }

        private static String wordFor(int word) {
            switch (word) {
                case ABOVE: return "above";
                case JOINED: return "joined";
                case FAR: return "far";
                case PARTED: return "parted";
                default: return "next";
            }
        }

        private boolean isWord(String word, int start) {
            if (at - start != word.length()) {
                return false;
            }
            for (int i = 0; i < word.length(); i++) {
                if (text[start + i] != word.charAt(i)) {
                    return false;
                }
            }
            return true;
        }

        /** Two posts, then lines up to so many numbers in all, then the semicolon. */
        private void readNumbers(int most) {
            for (int taken = 0; taken <= most && faultNumber == 0; taken++) {
                skipBlanks();
                if (taken >= 2 && at < length && text[at] == ';') {
                    at++;
                    return;
                }
                if (taken < most && isFigure(at)) {
                    readNumber(taken);
                } else {
                    fail(CANNOT_STAND, at);
                }
            }
        }

        private void readNumber(int taken) {
            int start = at;
            int value = 0;
            while (at < length && isFigure(at)) {
                // from the third figure on it is a fault, so what it would come to is not worked out
                value = at - start < 2 ? value * 10 + text[at] - '0' : value;
                at++;
            }
            if (at - start > 2) {
                fail(TOO_LONG, start);
            } else if (taken < 2 ? !net.hasPost(value) : !net.hasLine(value)) {
                fail(NOT_THERE, start);
            } else {
                keep(taken, value);
            }
        }

        private void keep(int taken, int value) {
            if (taken == 0) {
                first[questions] = value;
            } else if (taken == 1) {
                second[questions] = value;
            } else {
                failing[questions] |= 1 << value;
            }
        }
    }
}
