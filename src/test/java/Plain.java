import java.util.ArrayDeque;
import java.util.ArrayList;
import java.util.Arrays;
import java.util.HashMap;
import java.util.List;
import java.util.Map;
import java.util.TreeSet;
import java.util.regex.Matcher;
import java.util.regex.Pattern;

/**
 * The document once more, as slowly and plainly as can be: what names should tell is looked up in the net itself,
 * by ways through it, so that FuzzTest sees whether the names of NameNets tell the truth.
 */
final class Plain {
    static final int NONE = -1, UNKNOWN = -1001, OUTSIDE = -1002, NOT = -1003, FULL = -1004, DAMAGED = -1005;
    private static final Map<String, Integer> KNOWN_HOLDS = new HashMap<>();

    private int n = 1;
    private final List<int[]> lines = new ArrayList<>();
    private final List<List<List<Integer>>> book = new ArrayList<>(Arrays.asList(null, null, null));
    private final List<List<Integer>> checks = new ArrayList<>(Arrays.asList(null, null, null));
    private String text = "";
    private List<Integer> answers = new ArrayList<>();
    private int faultAt = NONE;

    private boolean isPost(int p) {
        return 0 <= p && p < n;
    }

    private boolean isLine(int l) {
        return 0 <= l && l < lines.size();
    }

    private static boolean isKind(int kind) {
        return 0 <= kind && kind <= 2;
    }

    // ---- the net

    int net(int posts) {
        if (posts < 1 || posts > 12) {
            return OUTSIDE;
        }
        n = posts;
        lines.clear();
        return 1;
    }

    int post() {
        return n == 12 ? FULL : n++;
    }

    int line(int a, int b) {
        if (!isPost(a) || !isPost(b)) {
            return UNKNOWN;
        }
        if (a == b) {
            return OUTSIDE;
        }
        if (neighbours(a).contains(b)) {
            return NOT;
        }
        if (lines.size() == 30) {
            return FULL;
        }
        lines.add(new int[] {a, b});
        return lines.size() - 1;
    }

    int strike(int l) {
        if (!isLine(l)) {
            return UNKNOWN;
        }
        lines.remove(l);
        return lines.size();
    }

    private TreeSet<Integer> neighbours(int p) {
        return neighbours(p, lines);
    }

    private static TreeSet<Integer> neighbours(int p, List<int[]> among) {
        TreeSet<Integer> found = new TreeSet<>();
        for (int[] l : among) {
            if (l[0] == p) {
                found.add(l[1]);
            }
            if (l[1] == p) {
                found.add(l[0]);
            }
        }
        return found;
    }

    /** The posts above each in the tree. */
    private int[] parents() {
        int[] above = new int[n];
        Arrays.fill(above, -2);
        for (int r = 0; r < n; r++) {
            if (above[r] != -2) {
                continue;
            }
            above[r] = NONE;
            ArrayDeque<Integer> queue = new ArrayDeque<>();
            queue.add(r);
            while (!queue.isEmpty()) {
                int p = queue.poll();
                for (int q : neighbours(p)) {
                    if (above[q] == -2) {
                        above[q] = p;
                        queue.add(q);
                    }
                }
            }
        }
        return above;
    }

    private boolean isOfTree(int l) {
        int[] above = parents();
        int[] ends = lines.get(l);
        return above[ends[0]] == ends[1] || above[ends[1]] == ends[0];
    }

    private List<int[]> treeLines() {
        List<int[]> found = new ArrayList<>();
        for (int l = 0; l < lines.size(); l++) {
            if (isOfTree(l)) {
                found.add(lines.get(l));
            }
        }
        return found;
    }

    private int[] distances(int start, List<int[]> among) {
        int[] found = new int[n];
        Arrays.fill(found, NONE);
        found[start] = 0;
        for (int round = 0; round < n; round++) {
            for (int[] l : among) {
                for (int side = 0; side < 2; side++) {
                    int p = l[side];
                    int q = l[1 - side];
                    if (found[p] != NONE && (found[q] == NONE || found[q] > found[p] + 1)) {
                        found[q] = found[p] + 1;
                    }
                }
            }
        }
        return found;
    }

    private boolean connected(int a, int b, List<int[]> among) {
        return distances(a, among)[b] != NONE;
    }

    private int rootOf(int p) {
        int[] above = parents();
        while (above[p] != NONE) {
            p = above[p];
        }
        return p;
    }

    int count(int what) {
        switch (what) {
            case 0: return n;
            case 1: return lines.size();
            case 2: return treeLines().size();
            case 3:
                int roots = 0;
                for (int p = 0; p < n; p++) {
                    roots += rootOf(p) == p ? 1 : 0;
                }
                return roots;
            case 4:
                int learned = 0;
                for (List<List<Integer>> page : book) {
                    learned += page == null ? 0 : 1;
                }
                return learned;
            case 5: return text.length();
            case 6: return answers.size();
            case 7:
                int most = 0;
                for (int p = 0; p < n; p++) {
                    most = Math.max(most, neighbours(p).size());
                }
                return most;
            default: return OUTSIDE;
        }
    }

    int told(int p, int what) {
        if (!isPost(p)) {
            return UNKNOWN;
        }
        switch (what) {
            case 0: return parents()[p];
            case 1: return rootOf(p);
            case 2: return neighbours(p).size();
            case 3: return distances(rootOf(p), lines)[p];
            case 4: return takenAway().indexOf(p);
            case 5: return hubs().indexOf(p);
            default: return OUTSIDE;
        }
    }

    int lines(int l, int what) {
        if (!isLine(l)) {
            return UNKNOWN;
        }
        switch (what) {
            case 0: return lines.get(l)[0];
            case 1: return lines.get(l)[1];
            case 2: return isOfTree(l) ? 1 : 0;
            case 3: return lineName(l);
            default: return OUTSIDE;
        }
    }

    private int lineName(int l) {
        if (!isOfTree(l)) {
            return 1 << l;
        }
        List<int[]> rest = treeLines();
        rest.remove(lines.get(l));
        int bits = 0;
        for (int k = 0; k < lines.size(); k++) {
            if (!isOfTree(k) && !connected(lines.get(k)[0], lines.get(k)[1], rest)) {
                bits |= 1 << k;
            }
        }
        return bits;
    }

    // ---- names

    private List<Integer> takenAway() {
        List<Integer> taken = new ArrayList<>();
        while (taken.size() < n) {
            int best = NONE;
            int fewest = 100;
            for (int p = 0; p < n; p++) {
                if (!taken.contains(p)) {
                    TreeSet<Integer> left = neighbours(p);
                    left.removeAll(taken);
                    if (left.size() < fewest) {
                        best = p;
                        fewest = left.size();
                    }
                }
            }
            taken.add(best);
        }
        return taken;
    }

    private List<Integer> hubs() {
        List<Integer> posts = new ArrayList<>();
        for (int p = 0; p < n; p++) {
            posts.add(p);
        }
        posts.sort((p, q) -> neighbours(p).size() != neighbours(q).size()
            ? neighbours(q).size() - neighbours(p).size() : p - q);
        return posts;
    }

    private int goThrough(int p, int[] above, int counter, List<List<Integer>> names) {
        int enter = counter++;
        for (int q = 0; q < n; q++) {
            if (above[q] == p) {
                counter = goThrough(q, above, counter, names);
            }
        }
        names.set(p, new ArrayList<>(List.of(enter, counter - 1)));
        return counter;
    }

    private List<List<Integer>> names(int kind) {
        List<List<Integer>> names = new ArrayList<>();
        for (int p = 0; p < n; p++) {
            names.add(new ArrayList<>());
        }
        if (kind == 0) {
            int[] above = parents();
            int counter = 0;
            for (int r = 0; r < n; r++) {
                if (above[r] == NONE) {
                    counter = goThrough(r, above, counter, names);
                }
            }
        } else if (kind == 1) {
            List<Integer> taken = takenAway();
            for (int p = 0; p < n; p++) {
                TreeSet<Integer> later = new TreeSet<>();
                for (int q : neighbours(p)) {
                    if (taken.indexOf(q) > taken.indexOf(p)) {
                        later.add(taken.indexOf(q));
                    }
                }
                names.get(p).add(taken.indexOf(p));
                names.get(p).addAll(later);
            }
        } else if (kind == 2) {
            for (int hub : hubs()) {
                spread(names, hub);
            }
        } else {
            for (int p = 0; p < n; p++) {
                names.get(p).add(pathSet(p, rootOf(p)));
            }
        }
        return names;
    }

    private void spread(List<List<Integer>> names, int hub) {
        Map<Integer, Integer> come = new HashMap<>();
        ArrayDeque<Integer> queue = new ArrayDeque<>();
        come.put(hub, 0);
        queue.add(hub);
        while (!queue.isEmpty()) {
            int p = queue.poll();
            int d = come.get(p);
            int known = farByNames(names.get(p), names.get(hub));
            if (known != NONE && known <= d) {
                continue;
            }
            names.get(p).add(hubs().indexOf(hub));
            names.get(p).add(d);
            for (int q : neighbours(p)) {
                if (!come.containsKey(q)) {
                    come.put(q, d + 1);
                    queue.add(q);
                }
            }
        }
    }

    private static int farByNames(List<Integer> a, List<Integer> b) {
        TreeSet<Integer> sums = new TreeSet<>();
        for (int i = 0; i < a.size(); i += 2) {
            for (int j = 0; j < b.size(); j += 2) {
                if (a.get(i).intValue() == b.get(j).intValue()) {
                    sums.add(a.get(i + 1) + b.get(j + 1));
                }
            }
        }
        return sums.isEmpty() ? NONE : sums.first();
    }

    /** The tree's lines between two posts of one root: those without which it does not join them. */
    private int pathSet(int a, int b) {
        int set = 0;
        for (int l = 0; l < lines.size(); l++) {
            if (isOfTree(l)) {
                List<int[]> rest = treeLines();
                rest.remove(lines.get(l));
                set |= connected(a, b, rest) ? 0 : 1 << l;
            }
        }
        return set;
    }

    int name(int kind, int p, int k) {
        if (!isPost(p)) {
            return UNKNOWN;
        }
        if (kind < 0 || kind > 3) {
            return OUTSIDE;
        }
        List<Integer> own = names(kind).get(p);
        return k == NONE ? own.size() : 0 <= k && k < own.size() ? own.get(k) : NONE;
    }

    int bits(int kind, int what) {
        if (kind < 0 || kind > 3 || what < 0 || what > 2) {
            return OUTSIDE;
        }
        int w = Integer.toBinaryString(n - 1).length();
        List<Integer> all = new ArrayList<>();
        int sum = 0;
        for (List<Integer> own : names(kind)) {
            int bits = kind == 3 ? treeLines().size() : kind == 0 ? 2 * w : w * own.size();
            all.add(bits);
            sum += bits;
        }
        int longest = new TreeSet<>(all).last();
        return what == 0 ? longest : what == 1 ? sum : all.indexOf(longest);
    }

    int ask(int kind, int a, int b) {
        if (!isPost(a) || !isPost(b)) {
            return UNKNOWN;
        }
        if (!isKind(kind)) {
            return OUTSIDE;
        }
        if (kind == 0) {
            int[] above = parents();
            for (int p = b; p != NONE; p = above[p]) {
                if (p == a) {
                    return 1;
                }
            }
            return 0;
        }
        return kind == 1 ? (neighbours(a).contains(b) ? 1 : 0) : distances(a, lines)[b];
    }

    private List<int[]> without(int set) {
        List<int[]> left = new ArrayList<>();
        for (int l = 0; l < lines.size(); l++) {
            if ((set >> l & 1) == 0) {
                left.add(lines.get(l));
            }
        }
        return left;
    }

    int parted(int a, int b, int set) {
        if (!isPost(a) || !isPost(b)) {
            return UNKNOWN;
        }
        for (int l = 0; l < 32; l++) {
            if ((set >> l & 1) == 1 && !isLine(l)) {
                return UNKNOWN;
            }
        }
        if (Integer.bitCount(set) > 6) {
            return OUTSIDE;
        }
        return connected(a, b, without(set)) ? 0 : 1;
    }

    // ---- the book

    private static int check(List<Integer> own) {
        int sum = 7 * own.size();
        for (int k = 0; k < own.size(); k++) {
            sum += own.get(k) * (k + 1);
        }
        return sum % 101;
    }

    private boolean inBook(int kind, int p) {
        return book.get(kind) != null && 0 <= p && p < book.get(kind).size();
    }

    private int unlike(int kind) {
        List<List<Integer>> old = book.get(kind) == null ? new ArrayList<>() : book.get(kind);
        List<List<Integer>> now = names(kind);
        int set = 0;
        for (int p = 0; p < 12; p++) {
            List<Integer> before = p < old.size() ? old.get(p) : null;
            List<Integer> after = p < now.size() ? now.get(p) : null;
            boolean like = before == null ? after == null : before.equals(after);
            set |= like ? 0 : 1 << p;
        }
        return set;
    }

    int learn(int kind) {
        if (!isKind(kind)) {
            return OUTSIDE;
        }
        int others = Integer.bitCount(unlike(kind));
        book.set(kind, names(kind));
        List<Integer> sums = new ArrayList<>();
        for (List<Integer> own : book.get(kind)) {
            sums.add(check(own));
        }
        checks.set(kind, sums);
        return others;
    }

    int forge(int kind, int p, int k, int v) {
        if (!isKind(kind)) {
            return OUTSIDE;
        }
        if (!inBook(kind, p)) {
            return UNKNOWN;
        }
        List<Integer> own = book.get(kind).get(p);
        if (k < 0 || k >= own.size() || v < 0 || v > 99) {
            return OUTSIDE;
        }
        return own.set(k, v);
    }

    int book(int kind, int p, int k) {
        if (!isKind(kind)) {
            return OUTSIDE;
        }
        if (!inBook(kind, p)) {
            return UNKNOWN;
        }
        List<Integer> own = book.get(kind).get(p);
        if (k == -2) {
            return checks.get(kind).get(p);
        }
        return k == NONE ? own.size() : 0 <= k && k < own.size() ? own.get(k) : NONE;
    }

    private boolean isRight(int kind, int p) {
        return check(book.get(kind).get(p)) == checks.get(kind).get(p);
    }

    int answer(int kind, int a, int b) {
        if (!isKind(kind)) {
            return OUTSIDE;
        }
        if (!inBook(kind, a) || !inBook(kind, b)) {
            return UNKNOWN;
        }
        if (!isRight(kind, a) || !isRight(kind, b)) {
            return DAMAGED;
        }
        List<Integer> first = book.get(kind).get(a);
        List<Integer> second = book.get(kind).get(b);
        if (kind == 0) {
            return first.get(0) <= second.get(0) && second.get(0) <= first.get(1) ? 1 : 0;
        }
        if (kind == 1) {
            return first.subList(1, first.size()).contains(second.get(0))
                || second.subList(1, second.size()).contains(first.get(0)) ? 1 : 0;
        }
        return farByNames(first, second);
    }

    int stale(int kind) {
        return !isKind(kind) ? OUTSIDE : book.get(kind) == null ? NOT : unlike(kind);
    }

    int damaged(int kind) {
        if (!isKind(kind)) {
            return OUTSIDE;
        }
        if (book.get(kind) == null) {
            return NOT;
        }
        int wrong = 0;
        for (int p = 0; p < book.get(kind).size(); p++) {
            wrong += isRight(kind, p) ? 0 : 1;
        }
        return wrong;
    }

    // ---- parcels, cuts

    int next(int a, int b) {
        if (!isPost(a) || !isPost(b)) {
            return UNKNOWN;
        }
        List<int[]> tree = treeLines();
        int[] far = distances(b, tree);
        if (a == b || far[a] == NONE) {
            return a == b ? b : NONE;
        }
        for (int q : neighbours(a, tree)) {
            if (far[q] == far[a] - 1) {
                return q;
            }
        }
        throw new IllegalStateException("no way on");
    }

    int goes(int a, int b) {
        if (!isPost(a) || !isPost(b)) {
            return UNKNOWN;
        }
        int steps = 0;
        for (int p = a; p != b; p = next(p, b)) {
            if (p == NONE) {
                return NONE;
            }
            steps++;
        }
        return steps;
    }

    int stretch(int what) {
        if (what < 0 || what > 3) {
            return OUTSIDE;
        }
        int[] best = {0, 1, NONE, NONE};
        double most = 0;
        for (int a = 0; a < n; a++) {
            int[] far = distances(a, lines);
            int[] go = distances(a, treeLines());
            for (int b = 0; b < n; b++) {
                if (a != b && far[b] != NONE && (double) go[b] / far[b] > most + 1e-9) {
                    most = (double) go[b] / far[b];
                    int common = java.math.BigInteger.valueOf(go[b]).gcd(java.math.BigInteger.valueOf(far[b])).intValue();
                    best = new int[] {go[b] / common, far[b] / common, a, b};
                }
            }
        }
        return best[what];
    }

    int cut(int a, int b) {
        if (!isPost(a) || !isPost(b)) {
            return UNKNOWN;
        }
        if (a == b) {
            return NOT;
        }
        if (!connected(a, b, lines)) {
            return 0;
        }
        int size = lines.size();
        for (int i = 0; i < size; i++) {
            if (!connected(a, b, without(1 << i))) {
                return 1 << i;
            }
        }
        for (int i = 0; i < size; i++) {
            for (int j = i + 1; j < size; j++) {
                if (!connected(a, b, without(1 << i | 1 << j))) {
                    return 1 << i | 1 << j;
                }
            }
        }
        // below four ways there is a cut of three at most, so the long search is only made where it ends
        if (ways(a, b) > 3) {
            return NONE;
        }
        for (int i = 0; i < size; i++) {
            for (int j = i + 1; j < size; j++) {
                for (int k = j + 1; k < size; k++) {
                    if (!connected(a, b, without(1 << i | 1 << j | 1 << k))) {
                        return 1 << i | 1 << j | 1 << k;
                    }
                }
            }
        }
        return NONE;
    }

    /** As many as the fewest lines that lead out of some set of posts with a and without b. */
    int ways(int a, int b) {
        if (!isPost(a) || !isPost(b)) {
            return UNKNOWN;
        }
        if (a == b) {
            return NOT;
        }
        int fewest = 100;
        for (int side = 0; side < 1 << n; side++) {
            if ((side >> a & 1) == 1 && (side >> b & 1) == 0) {
                int out = 0;
                for (int[] l : lines) {
                    out += (side >> l[0] & 1) ^ (side >> l[1] & 1);
                }
                fewest = Math.min(fewest, out);
            }
        }
        return fewest;
    }

    // ---- small nets

    private static boolean[][] table(int m, int number) {
        boolean[][] joined = new boolean[m][m];
        int bit = 0;
        for (int j = 1; j < m; j++) {
            for (int i = 0; i < j; i++) {
                joined[i][j] = (number >> bit & 1) == 1;
                joined[j][i] = joined[i][j];
                bit++;
            }
        }
        return joined;
    }

    int holds(int m, int h, int k, int g) {
        if (m < 1 || m > 5 || k < 1 || k > 5) {
            return OUTSIDE;
        }
        if (h < 0 || h >= 1 << m * (m - 1) / 2 || g < 0 || g >= 1 << k * (k - 1) / 2) {
            return OUTSIDE;
        }
        boolean[][] big = table(m, h);
        boolean[][] little = table(k, g);
        int all = (int) Math.pow(m, k);
        for (int code = 0; code < all; code++) {
            int[] seat = new int[k];
            int rest = code;
            for (int i = 0; i < k; i++) {
                seat[i] = rest % m;
                rest /= m;
            }
            boolean fits = true;
            for (int i = 0; i < k; i++) {
                for (int j = 0; j < i; j++) {
                    fits &= seat[i] != seat[j] && big[seat[i]][seat[j]] == little[i][j];
                }
            }
            if (fits) {
                return 1;
            }
        }
        return 0;
    }

    int universal(int k, int m, int what) {
        if (k < 1 || k > 3 || m < 1 || m > 5 || what < 0 || what > 1) {
            return OUTSIDE;
        }
        return KNOWN_HOLDS.computeIfAbsent(k + " " + m + " " + what, key -> {
            int many = 0;
            int least = NONE;
            for (int h = 0; h < 1 << m * (m - 1) / 2; h++) {
                boolean all = true;
                for (int g = 0; g < 1 << k * (k - 1) / 2; g++) {
                    all &= holds(m, h, k, g) == 1;
                }
                if (all) {
                    many++;
                    least = least == NONE ? h : least;
                }
            }
            return what == 0 ? many : least;
        });
    }

    int small() {
        if (n > 5) {
            return NOT;
        }
        String[] pairs = {"0 1", "0 2", "1 2", "0 3", "1 3", "2 3", "0 4", "1 4", "2 4", "3 4"};
        int number = 0;
        for (int[] l : lines) {
            number |= 1 << Arrays.asList(pairs).indexOf(Math.min(l[0], l[1]) + " " + Math.max(l[0], l[1]));
        }
        return number;
    }

    // ---- scripts

    int feed(int many, long bytes) {
        if (many < 1 || many > 8) {
            return OUTSIDE;
        }
        if (text.length() + many > 200) {
            return FULL;
        }
        for (int i = many; i > 0; i--) {
            text += (char) (bytes >>> 8 * (i - 1) & 255);
        }
        return text.length();
    }

    int read() {
        String script = text;
        text = "";
        faultAt = NONE;
        List<Integer> found = new ArrayList<>();
        Matcher tokens = Pattern.compile("[a-z]+|[0-9]+|[^ ]").matcher(script);
        String word = "";
        List<Integer> numbers = new ArrayList<>();
        while (tokens.find()) {
            String token = tokens.group();
            int number = 0;
            if (word.isEmpty()) {
                if (!List.of("above", "joined", "far", "parted", "next").contains(token)) {
                    number = 1;
                } else if (found.size() == 12) {
                    number = 4;
                }
                word = token;
            } else if (token.equals(";") && numbers.size() >= 2) {
                found.add(reply(word, numbers));
                word = "";
                numbers.clear();
            } else if (!token.matches("[0-9]+") || numbers.size() == (word.equals("parted") ? 8 : 2)) {
                number = 1;
            } else if (token.length() > 2) {
                number = 2;
            } else {
                int value = Integer.parseInt(token);
                if (value >= (numbers.size() < 2 ? n : lines.size())) {
                    number = 3;
                }
                numbers.add(value);
            }
            if (number != 0) {
                faultAt = tokens.start();
                return -10 - number;
            }
        }
        if (!word.isEmpty()) {
            faultAt = script.length();
            return -11;
        }
        answers = found;
        return answers.size();
    }

    private int reply(String word, List<Integer> numbers) {
        int a = numbers.get(0);
        int b = numbers.get(1);
        switch (word) {
            case "above": return ask(0, a, b);
            case "joined": return ask(1, a, b);
            case "far": return ask(2, a, b);
            case "next": return next(a, b);
            default:
                int set = 0;
                for (int l : numbers.subList(2, numbers.size())) {
                    set |= 1 << l;
                }
                return parted(a, b, set);
        }
    }

    int fault() {
        return faultAt;
    }

    int said(int i) {
        return 0 <= i && i < answers.size() ? answers.get(i) : UNKNOWN;
    }
}
