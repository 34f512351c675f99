import java.util.ArrayList;
import java.util.Comparator;
import java.util.HashSet;
import java.util.LinkedHashMap;
import java.util.List;
import java.util.Map;
import java.util.Set;
import java.util.TreeMap;

/**
 * The document read as literally as can be, without a thought for speed or room: what ModelTest holds
 * LikePages against. It shares no line with the program, and keeps nothing that can be worked out anew.
 */
final class Model {
    static final int NONE = -1;

    static final class Entry {
        int thing;
        int reach;
        Node below;

        Entry(int thing, int reach, Node below) {
            this.thing = thing;
            this.reach = reach;
            this.below = below;
        }

        Entry copy() {
            return new Entry(thing, reach, below == null ? null : below.copy());
        }
    }

    static final class Node {
        boolean leaf = true;
        List<Entry> entries = new ArrayList<>();

        Node copy() {
            Node node = new Node();
            node.leaf = leaf;
            for (Entry e : entries) {
                node.entries.add(e.copy());
            }
            return node;
        }
    }

    /** All that steps and images bring back, but for the steps themselves. */
    static final class All {
        TreeMap<Integer, String> words = new TreeMap<>();
        Map<List<Integer>, Integer> told = new LinkedHashMap<>();
        int measure = 0;
        int cap = 4;
        Node root = new Node();

        All copy() {
            All all = new All();
            all.words.putAll(words);
            all.told.putAll(told);
            all.measure = measure;
            all.cap = cap;
            all.root = root.copy();
            return all;
        }
    }

    private All all = new All();
    private List<All> steps = new ArrayList<>();
    private All image = new All();
    private List<All> imageSteps = new ArrayList<>();
    private String sheet = "";
    private String replies = "";
    private int fault = NONE;
    private int[] cost = null;

    // ---- words

    static String text(int word) {
        if (word < 1) {
            return null;
        }
        String digits = Integer.toString(word, 9);
        if (digits.length() > 6 || digits.indexOf('0') >= 0) {
            return null;
        }
        StringBuilder b = new StringBuilder();
        for (char c : digits.toCharArray()) {
            b.append((char) ('a' + (c - '1')));
        }
        return b.toString();
    }

    static int number(String text) {
        int n = 0;
        for (char c : text.toCharArray()) {
            n = n * 9 + (c - 'a' + 1);
        }
        return n;
    }

    static int levenshtein(String a, String b) {
        if (a.isEmpty() || b.isEmpty()) {
            return a.length() + b.length();
        }
        String a1 = a.substring(1);
        String b1 = b.substring(1);
        if (a.charAt(0) == b.charAt(0)) {
            return levenshtein(a1, b1);
        }
        return 1 + Math.min(levenshtein(a1, b1), Math.min(levenshtein(a, b1), levenshtein(a1, b)));
    }

    static int byMeasure(int measure, String a, String b) {
        if (measure == 0) {
            return levenshtein(a, b);
        }
        int places = 0;
        int sum = 0;
        for (int i = 0; i < Math.max(a.length(), b.length()); i++) {
            int x = i < a.length() ? a.charAt(i) - 'a' + 1 : 0;
            int y = i < b.length() ? b.charAt(i) - 'a' + 1 : 0;
            places += x != y ? 1 : 0;
            sum += Math.abs(x - y);
        }
        if (measure == 1) {
            return places;
        }
        if (measure == 2) {
            return sum;
        }
        if (a.equals(b)) {
            return 0;
        }
        int common = 0;
        while (common < a.length() && common < b.length() && a.charAt(common) == b.charAt(common)) {
            common++;
        }
        return 7 - common;
    }

    private boolean has(int thing) {
        return all.words.containsKey(thing);
    }

    private int f(int from, int to) {
        Integer t = all.told.get(List.of(from, to));
        return t != null ? t : byMeasure(all.measure, all.words.get(from), all.words.get(to));
    }

    private int f(String word, int to) {
        return byMeasure(all.measure, word, all.words.get(to));
    }

    private List<Integer> things() {
        return new ArrayList<>(all.words.keySet());
    }

    // ---- the tree

    private void putInTree(int thing) {
        List<Entry> two = putIn(all.root, thing);
        if (two != null) {
            Node root = new Node();
            root.leaf = false;
            root.entries.addAll(two);
            all.root = root;
        }
    }

    /** The two entries that take the place of the one above, if the page was split. */
    private List<Entry> putIn(Node node, int thing) {
        if (node.leaf) {
            node.entries.add(new Entry(thing, 0, null));
        } else {
            Entry best = null;
            for (Entry e : node.entries) {
                if (f(e.thing, thing) <= e.reach && (best == null || f(e.thing, thing) < f(best.thing, thing))) {
                    best = e;
                }
            }
            if (best == null) {
                for (Entry e : node.entries) {
                    if (best == null || f(e.thing, thing) - e.reach < f(best.thing, thing) - best.reach) {
                        best = e;
                    }
                }
            }
            best.reach = Math.max(best.reach, f(best.thing, thing));
            List<Entry> two = putIn(best.below, thing);
            if (two != null) {
                int at = node.entries.indexOf(best);
                node.entries.set(at, two.get(0));
                node.entries.add(at + 1, two.get(1));
            }
        }
        return node.entries.size() > all.cap ? split(node) : null;
    }

    private List<Entry> split(Node node) {
        int best = Integer.MAX_VALUE;
        int bi = -1;
        int bj = -1;
        for (int i = 0; i < node.entries.size(); i++) {
            for (int j = i + 1; j < node.entries.size(); j++) {
                int g = Math.max(reachOf(node, i, j, true), reachOf(node, i, j, false));
                if (g < best) {
                    best = g;
                    bi = i;
                    bj = j;
                }
            }
        }
        Node other = new Node();
        other.leaf = node.leaf;
        List<Entry> stay = new ArrayList<>();
        for (int k = 0; k < node.entries.size(); k++) {
            (goesToI(node, bi, bj, k) ? stay : other.entries).add(node.entries.get(k));
        }
        Entry first = new Entry(node.entries.get(bi).thing, reachOf(node, bi, bj, true), node);
        Entry second = new Entry(node.entries.get(bj).thing, reachOf(node, bi, bj, false), other);
        node.entries = stay;
        return List.of(first, second);
    }

    private boolean goesToI(Node node, int i, int j, int k) {
        if (k == i || k == j) {
            return k == i;
        }
        int t = node.entries.get(k).thing;
        return f(node.entries.get(i).thing, t) <= f(node.entries.get(j).thing, t);
    }

    private int reachOf(Node node, int i, int j, boolean ofI) {
        int c = ofI ? i : j;
        int reach = node.entries.get(c).reach;
        for (int k = 0; k < node.entries.size(); k++) {
            if (k != c && goesToI(node, i, j, k) == ofI) {
                reach = Math.max(reach, f(node.entries.get(c).thing, node.entries.get(k).thing) + node.entries.get(k).reach);
            }
        }
        return reach;
    }

    private void rebuild() {
        all.root = new Node();
        for (int t : things()) {
            putInTree(t);
        }
    }

    private void remove(int thing) {
        all.words.remove(thing);
        all.told.keySet().removeIf(k -> k.contains(thing));
        boolean centre = false;
        for (Node n : order()) {
            for (Entry e : n.entries) {
                centre |= !n.leaf && e.thing == thing;
            }
        }
        if (centre) {
            rebuild();
            return;
        }
        removeBelow(all.root, thing);
        while (!all.root.leaf && all.root.entries.size() == 1) {
            all.root = all.root.entries.get(0).below;
        }
    }

    private void removeBelow(Node node, int thing) {
        if (node.leaf) {
            node.entries.removeIf(e -> e.thing == thing);
            return;
        }
        for (Entry e : new ArrayList<>(node.entries)) {
            removeBelow(e.below, thing);
            if (e.below.entries.isEmpty()) {
                node.entries.remove(e);
            }
        }
    }

    private List<Node> order() {
        List<Node> list = new ArrayList<>();
        listFrom(all.root, list);
        return list;
    }

    private void listFrom(Node node, List<Node> list) {
        list.add(node);
        for (Entry e : node.entries) {
            if (!node.leaf) {
                listFrom(e.below, list);
            }
        }
    }

    private Entry above(Node node) {
        for (Node n : order()) {
            for (Entry e : n.entries) {
                if (e.below == node) {
                    return e;
                }
            }
        }
        return null;
    }

    private Node parent(Node node) {
        for (Node n : order()) {
            for (Entry e : n.entries) {
                if (e.below == node) {
                    return n;
                }
            }
        }
        return null;
    }

    private int way(Node node, Entry e) {
        Entry up = above(node);
        return up == null ? 0 : f(up.thing, e.thing);
    }

    private List<Integer> below(Node node) {
        List<Integer> list = new ArrayList<>();
        for (Entry e : node.entries) {
            if (node.leaf) {
                list.add(e.thing);
            } else {
                list.addAll(below(e.below));
            }
        }
        return list;
    }

    // ---- steps

    private void step() {
        steps.add(all.copy());
        if (steps.size() > 20) {
            steps.remove(0);
        }
    }

    // ---- the face

    int put(int word) {
        if (!canPut(text(word))) {
            return NONE;
        }
        step();
        return doPut(text(word));
    }

    private boolean canPut(String w) {
        return w != null && !all.words.containsValue(w) && all.words.size() < 40;
    }

    private int doPut(String w) {
        int t = 0;
        while (has(t)) {
            t++;
        }
        all.words.put(t, w);
        putInTree(t);
        return t;
    }

    boolean drop(int thing) {
        if (!has(thing)) {
            return false;
        }
        step();
        remove(thing);
        return true;
    }

    boolean measure(int m) {
        if (m < 0 || m > 3) {
            return false;
        }
        step();
        all.measure = m;
        rebuild();
        return true;
    }

    boolean cap(int c) {
        if (c < 2 || c > 6) {
            return false;
        }
        step();
        all.cap = c;
        rebuild();
        return true;
    }

    int tell(int from, int to, int far) {
        if (!has(from) || !has(to) || from == to || far < 0 || far > 99) {
            return NONE;
        }
        if (!all.told.containsKey(List.of(from, to)) && all.told.size() == 16) {
            return NONE;
        }
        step();
        all.told.put(List.of(from, to), far);
        rebuild();
        return all.told.size();
    }

    int wipe() {
        step();
        int n = all.told.size();
        all.told.clear();
        rebuild();
        return n;
    }

    int build() {
        step();
        rebuild();
        return order().size();
    }

    boolean spell(int thing, int word) {
        if (!has(thing) || text(word) == null || all.words.containsValue(text(word))) {
            return false;
        }
        step();
        remove(thing);
        all.words.put(thing, text(word));
        putInTree(thing);
        return true;
    }

    int tight() {
        step();
        int were = is(9);
        for (Node n : order()) {
            for (Entry e : n.entries) {
                if (!n.leaf) {
                    e.reach = below(e.below).stream().mapToInt(t -> f(e.thing, t)).max().getAsInt();
                }
            }
        }
        return were - is(9);
    }

    int feed(int a, int b, int c, int d, int e) {
        if (sheet.length() + 20 > 300) {
            return NONE;
        }
        for (int x : new int[] {a, b, c, d, e}) {
            for (int s = 24; s >= 0; s -= 8) {
                sheet += (char) (x >> s & 0xff);
            }
        }
        return sheet.length();
    }

    int end(int n) {
        if (n < 0 || n > sheet.length()) {
            return NONE;
        }
        sheet = sheet.substring(0, n);
        return n;
    }

    int perform() {
        String text = sheet;
        sheet = "";
        replies = "";
        List<String> parts = new ArrayList<>();
        List<Integer> starts = new ArrayList<>();
        java.util.regex.Matcher m = java.util.regex.Pattern.compile("[a-z]+|[0-9]+|[^ ]", java.util.regex.Pattern.DOTALL).matcher(text);
        while (m.find()) {
            parts.add(m.group());
            starts.add(m.start());
        }
        starts.add(text.length());
        int bad = firstBad(parts);
        fault = bad < 0 ? NONE : starts.get(bad);
        if (bad >= 0) {
            return NONE;
        }
        step();
        List<String> out = new ArrayList<>();
        List<String> command = new ArrayList<>();
        for (int i = 0; i <= parts.size(); i++) {
            if (i == parts.size() || parts.get(i).equals(";")) {
                out.add(doOne(command));
                command.clear();
            } else {
                command.add(parts.get(i));
            }
        }
        replies = String.join(";", out);
        replies = replies.substring(0, Math.min(400, replies.length()));
        return out.size();
    }

    /** The number of the first part that can't stand there (that of the end: too early), or -1. */
    private static int firstBad(List<String> parts) {
        Map<String, String> forms = Map.of("put", "W", "drop", "W", "near", "WN", "within", "WN", "measure", "M", "cap", "N", "far", "WW", "size", "");
        int i = 0;
        while (true) {
            if (i >= parts.size() || !forms.containsKey(parts.get(i))) {
                return i;
            }
            String form = forms.get(parts.get(i++));
            for (char c : form.toCharArray()) {
                String like = c == 'W' ? "[a-h]{1,6}" : c == 'N' ? "[0-9]{1,3}" : "edit|place|sum|head";
                if (i >= parts.size() || !parts.get(i).matches(like)) {
                    return i;
                }
                i++;
            }
            if (i == parts.size()) {
                return -1;
            }
            if (!parts.get(i++).equals(";")) {
                return i - 1;
            }
        }
    }

    private String doOne(List<String> c) {
        String w = c.size() > 1 ? c.get(1) : null;
        switch (c.get(0)) {
            case "put":
                return canPut(w) ? "" + doPut(w) : "no";
            case "drop":
                for (int t : things()) {
                    if (all.words.get(t).equals(w)) {
                        remove(t);
                        return "" + t;
                    }
                }
                return "no";
            case "near":
            case "within":
                int n = Integer.parseInt(c.get(2));
                boolean near = c.get(0).equals("near");
                if (near ? n < 1 || n > 40 : n > 99) {
                    return "no";
                }
                List<Integer> found = near ? nearest(w, NONE, n) : inside(w, NONE, n);
                String s = found.toString().replaceAll("[\\[\\] ]", "");
                return s.isEmpty() ? "-" : s;
            case "measure":
                all.measure = List.of("edit", "place", "sum", "head").indexOf(w);
                rebuild();
                return "ok";
            case "cap":
                int cap = Integer.parseInt(w);
                if (cap < 2 || cap > 6) {
                    return "no";
                }
                all.cap = cap;
                rebuild();
                return "ok";
            case "far":
                return "" + byMeasure(all.measure, w, c.get(2));
            default:
                return "" + all.words.size();
        }
    }

    int fault() {
        return fault;
    }

    int reply(int i) {
        return i == NONE ? replies.length() : i >= 0 && i < replies.length() ? replies.charAt(i) : NONE;
    }

    int undo() {
        if (steps.isEmpty()) {
            return NONE;
        }
        all = steps.remove(steps.size() - 1).copy();
        return steps.size();
    }

    int is(int what) {
        int[] n = new int[10];
        n[0] = all.words.size();
        n[4] = all.measure;
        n[5] = all.cap;
        n[6] = all.told.size();
        for (Node p : order()) {
            n[1]++;
            n[2] += p.leaf ? 1 : 0;
            n[7] += p.entries.size();
            for (int i = 0; i < p.entries.size(); i++) {
                Entry e = p.entries.get(i);
                n[9] += e.reach;
                for (int j = i + 1; j < p.entries.size() && !p.leaf; j++) {
                    Entry o = p.entries.get(j);
                    n[8] += f(e.thing, o.thing) <= e.reach + o.reach ? 1 : 0;
                }
            }
        }
        for (Node p = all.root; p != null; p = p.leaf ? null : p.entries.get(0).below) {
            n[3]++;
        }
        return what >= 0 && what < 10 ? n[what] : NONE;
    }

    int word(int thing) {
        return has(thing) ? number(all.words.get(thing)) : NONE;
    }

    int thing(int word) {
        for (int t : things()) {
            if (all.words.get(t).equals(text(word))) {
                return t;
            }
        }
        return NONE;
    }

    int letters(int word) {
        return text(word) == null ? NONE : text(word).length();
    }

    int apart(int word, int other) {
        return text(word) == null || text(other) == null ? NONE : byMeasure(all.measure, text(word), text(other));
    }

    int far(int from, int to) {
        return has(from) && has(to) ? f(from, to) : NONE;
    }

    int page(int i, int what) {
        List<Node> order = order();
        if (i < 0 || i >= order.size()) {
            return -2;
        }
        Node p = order.get(i);
        Entry up = above(p);
        int depth = 0;
        for (Node q = parent(p); q != null; q = parent(q)) {
            depth++;
        }
        int[] answers = {p.leaf ? 1 : 0, p.entries.size(), up == null ? NONE : up.thing, up == null ? NONE : up.reach, depth, below(p).size()};
        return what >= 0 && what < 6 ? answers[what] : -2;
    }

    int entry(int i, int k, int what) {
        List<Node> order = order();
        if (i < 0 || i >= order.size() || k < 0 || k >= order.get(i).entries.size()) {
            return -2;
        }
        Entry e = order.get(i).entries.get(k);
        int[] answers = {e.thing, e.reach, way(order.get(i), e), order.indexOf(e.below)};
        return what >= 0 && what < 4 ? answers[what] : -2;
    }

    int leafOf(int thing) {
        List<Node> order = order();
        for (int i = 0; i < order.size(); i++) {
            if (order.get(i).leaf && below(order.get(i)).contains(thing)) {
                return i;
            }
        }
        return NONE;
    }

    // ---- searches

    private String askWord;
    private int askThing;
    private Set<Integer> measured;
    private int spared;
    private int looked;

    private int ask(int thing) {
        measured.add(thing);
        return askThing != NONE ? f(askThing, thing) : f(askWord, thing);
    }

    private void start(String word, int thing) {
        askWord = word;
        askThing = thing;
        measured = new HashSet<>();
        spared = 0;
        looked = 0;
    }

    private List<Integer> finish(List<Integer> found) {
        cost = new int[] {measured.size(), spared, looked, found.size()};
        return found;
    }

    private List<Integer> inside(String word, int thing, int r) {
        start(word, thing);
        List<Integer> found = new ArrayList<>();
        insideOf(all.root, null, r, found);
        found.sort(Comparator.<Integer>comparingInt(t -> ask(t)).thenComparingInt(t -> t));
        return finish(found);
    }

    private void insideOf(Node node, Entry up, int r, List<Integer> found) {
        looked++;
        for (Entry e : node.entries) {
            if (up != null && Math.abs(ask(up.thing) - f(up.thing, e.thing)) > r + e.reach) {
                spared++;
                continue;
            }
            int far = ask(e.thing);
            if (node.leaf && far <= r) {
                found.add(e.thing);
            }
            if (!node.leaf && far <= r + e.reach) {
                insideOf(e.below, e, r, found);
            }
        }
    }

    private static final class Wait {
        Node node;
        Entry up;
        int bound;
    }

    private static Wait wait(Node node, Entry up, int bound) {
        Wait w = new Wait();
        w.node = node;
        w.up = up;
        w.bound = bound;
        return w;
    }

    private List<Integer> nearest(String word, int thing, int k) {
        start(word, thing);
        List<Integer> found = new ArrayList<>();
        List<Wait> waiting = new ArrayList<>();
        waiting.add(wait(all.root, null, 0));
        while (!waiting.isEmpty()) {
            Wait next = waiting.get(0);
            for (Wait w : waiting) {
                next = w.bound < next.bound ? w : next;
            }
            if (found.size() >= k && next.bound > ask(found.get(k - 1))) {
                break;
            }
            waiting.remove(next);
            looked++;
            for (Entry e : next.node.entries) {
                boolean limited = found.size() >= k;
                int limit = limited ? ask(found.get(k - 1)) : 0;
                if (next.up != null && limited && Math.abs(ask(next.up.thing) - f(next.up.thing, e.thing)) > e.reach + limit) {
                    spared++;
                    continue;
                }
                int far = ask(e.thing);
                if (next.node.leaf) {
                    found.add(e.thing);
                    found.sort(Comparator.<Integer>comparingInt(t -> ask(t)).thenComparingInt(t -> t));
                } else {
                    int bound = Math.max(0, far - e.reach);
                    if (!limited || bound <= limit) {
                        waiting.add(wait(e.below, e, bound));
                    }
                }
            }
        }
        return finish(new ArrayList<>(found.subList(0, Math.min(k, found.size()))));
    }

    private List<Integer> remotest(String word, int k) {
        start(word, NONE);
        List<Integer> found = new ArrayList<>();
        List<Wait> waiting = new ArrayList<>();
        waiting.add(wait(all.root, null, 1000));
        while (!waiting.isEmpty()) {
            Wait next = waiting.get(0);
            for (Wait w : waiting) {
                next = w.bound > next.bound ? w : next;
            }
            if (found.size() >= k && next.bound < ask(found.get(k - 1))) {
                break;
            }
            waiting.remove(next);
            looked++;
            for (Entry e : next.node.entries) {
                boolean limited = found.size() >= k;
                int limit = limited ? ask(found.get(k - 1)) : 0;
                if (next.up != null && limited && ask(next.up.thing) + f(next.up.thing, e.thing) + e.reach < limit) {
                    spared++;
                    continue;
                }
                int far = ask(e.thing);
                if (next.node.leaf) {
                    found.add(e.thing);
                    found.sort(Comparator.<Integer>comparingInt(t -> -ask(t)).thenComparingInt(t -> t));
                } else if (!limited || far + e.reach >= limit) {
                    waiting.add(wait(e.below, e, far + e.reach));
                }
            }
        }
        return finish(new ArrayList<>(found.subList(0, Math.min(k, found.size()))));
    }

    private static int pick(List<Integer> list, int i) {
        return i == NONE ? list.size() : i >= 0 && i < list.size() ? list.get(i) : NONE;
    }

    private static boolean isFar(int r) {
        return r >= 0 && r <= 99;
    }

    private static boolean isMany(int k) {
        return k >= 1 && k <= 40;
    }

    int within(int word, int r, int i) {
        return text(word) != null && isFar(r) ? pick(inside(text(word), NONE, r), i) : NONE;
    }

    int around(int thing, int r, int i) {
        return has(thing) && isFar(r) ? pick(inside(null, thing, r), i) : NONE;
    }

    int near(int word, int k, int i) {
        return text(word) != null && isMany(k) ? pick(nearest(text(word), NONE, k), i) : NONE;
    }

    int beside(int thing, int k, int i) {
        return has(thing) && isMany(k) ? pick(nearest(null, thing, k), i) : NONE;
    }

    int farthest(int word, int k, int i) {
        return text(word) != null && isMany(k) ? pick(remotest(text(word), k), i) : NONE;
    }

    int cost(int what) {
        return cost == null || what < 0 || what > 3 ? NONE : cost[what];
    }

    int scan(int word, int r) {
        if (text(word) == null || !isFar(r)) {
            return NONE;
        }
        return (int) things().stream().filter(t -> f(text(word), t) <= r).count();
    }

    // ---- all distances

    private int[] firstBreak(int what) {
        for (int a : things()) {
            if (what == 0 && f(a, a) != 0) {
                return new int[] {a, NONE, NONE};
            }
            for (int b : things()) {
                if (a == b) {
                    continue;
                }
                if (what == 1 && f(a, b) == 0 || what == 2 && a < b && f(a, b) != f(b, a)) {
                    return new int[] {a, b, NONE};
                }
                for (int c : things()) {
                    if (what == 3 && c != a && c != b && f(a, c) > f(a, b) + f(b, c)) {
                        return new int[] {a, b, c};
                    }
                }
            }
        }
        return null;
    }

    boolean broken(int what) {
        return firstBreak(what) != null;
    }

    int breaks(int what, int which) {
        int[] first = firstBreak(what);
        return first == null || which < 0 || which > 2 ? NONE : first[which];
    }

    boolean covers() {
        for (Node n : order()) {
            for (Entry e : n.entries) {
                if (!n.leaf && below(e.below).stream().anyMatch(t -> f(e.thing, t) > e.reach)) {
                    return false;
                }
            }
        }
        return true;
    }

    private List<int[]> pairs() {
        List<int[]> list = new ArrayList<>();
        for (int a : things()) {
            for (int b : things()) {
                if (a < b) {
                    list.add(new int[] {a, b, f(a, b)});
                }
            }
        }
        return list;
    }

    int pair(int what) {
        int[] best = null;
        for (int[] p : pairs()) {
            if (best == null || (what == 0 ? p[2] < best[2] : p[2] > best[2])) {
                best = p;
            }
        }
        return best == null || what < 0 || what > 1 ? NONE : best[0] * 40 + best[1];
    }

    int couple(int r, int i) {
        List<Integer> list = new ArrayList<>();
        for (int[] p : pairs()) {
            if (p[2] <= r) {
                list.add(p[0] * 40 + p[1]);
            }
        }
        return isFar(r) ? pick(list, i) : NONE;
    }

    int spaced(int far) {
        return (int) pairs().stream().filter(p -> p[2] == far).count();
    }

    int lonely() {
        int best = NONE;
        int bestLeast = -1;
        for (int t : things()) {
            int least = things().stream().filter(o -> o != t).mapToInt(o -> f(t, o)).min().orElse(-1);
            if (least > bestLeast) {
                best = t;
                bestLeast = least;
            }
        }
        return all.words.size() < 2 ? NONE : best;
    }

    int pivot(int i) {
        List<Integer> list = new ArrayList<>();
        while (list.size() < all.words.size()) {
            if (list.isEmpty()) {
                list.add(middle());
                continue;
            }
            int best = NONE;
            int bestLeast = -1;
            for (int t : things()) {
                int least = list.stream().mapToInt(p -> f(p, t)).min().getAsInt();
                if (!list.contains(t) && least > bestLeast) {
                    best = t;
                    bestLeast = least;
                }
            }
            list.add(best);
        }
        return i >= 0 && i < list.size() ? list.get(i) : NONE;
    }

    int letter(int thing, int i) {
        return has(thing) && i >= 0 && i < all.words.get(thing).length() ? all.words.get(thing).charAt(i) - 'a' + 1 : NONE;
    }

    int middle() {
        int best = NONE;
        int bestSum = 0;
        for (int t : things()) {
            int sum = things().stream().filter(o -> o != t).mapToInt(o -> f(t, o)).sum();
            if (best == NONE || sum < bestSum) {
                best = t;
                bestSum = sum;
            }
        }
        return best;
    }

    int groups(int r, int thing) {
        if (!isFar(r) || thing != NONE && !has(thing)) {
            return NONE;
        }
        List<Set<Integer>> groups = new ArrayList<>();
        Set<Integer> seen = new HashSet<>();
        for (int t : things()) {
            if (!seen.contains(t)) {
                Set<Integer> group = new HashSet<>();
                flood(t, r, group);
                seen.addAll(group);
                groups.add(group);
            }
        }
        if (thing == NONE) {
            return groups.size();
        }
        return groups.stream().filter(g -> g.contains(thing)).findFirst().get().size();
    }

    private void flood(int t, int r, Set<Integer> group) {
        if (!group.add(t)) {
            return;
        }
        for (int o : things()) {
            if (o != t && f(Math.min(o, t), Math.max(o, t)) <= r) {
                flood(o, r, group);
            }
        }
    }

    private List<Integer> chainFrom(int thing) {
        List<Integer> list = new ArrayList<>(List.of(thing));
        while (list.size() < all.words.size()) {
            int last = list.get(list.size() - 1);
            int best = NONE;
            for (int t : things()) {
                if (!list.contains(t) && (best == NONE || f(last, t) < f(last, best))) {
                    best = t;
                }
            }
            list.add(best);
        }
        return list;
    }

    int chain(int thing, int i) {
        return has(thing) && i >= 0 ? pick(chainFrom(thing), i) : NONE;
    }

    int chainLong(int thing) {
        if (!has(thing)) {
            return NONE;
        }
        List<Integer> list = chainFrom(thing);
        int sum = 0;
        for (int i = 1; i < list.size(); i++) {
            sum += f(list.get(i - 1), list.get(i));
        }
        return sum;
    }

    int mean() {
        float sum = 0;
        for (int[] p : pairs()) {
            sum += p[2];
        }
        return pairs().isEmpty() ? 0 : Float.floatToIntBits(sum / (float) pairs().size());
    }

    int image() {
        image = all.copy();
        imageSteps = new ArrayList<>(steps);
        return all.words.size();
    }

    int back() {
        all = image.copy();
        steps = new ArrayList<>(imageSteps);
        return all.words.size();
    }

    int steps() {
        return steps.size();
    }
}
