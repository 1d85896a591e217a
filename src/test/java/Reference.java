import java.util.ArrayList;
import java.util.HashSet;
import java.util.List;
import java.util.Set;
import java.util.TreeSet;

/**
 * The document once more, written as slowly and as near to its words as can be, to be compared with
 * the program: texts are Strings, sets are sets, nothing is kept from call to call.
 */
final class Reference {
    private static final int ENUMERATED = 3000;

    record Entry(String surface, int part, int cost, int cuts, int base) { }

    record Node(int begin, int length, int part, int cost, int entry) {
        int end() {
            return begin + length;
        }
    }

    record Token(int begin, int length, int part, int entry) {
        int end() {
            return begin + length;
        }
    }

    record Filter(int kind, int v) { }

    record Posting(String term, int position) { }

    record Result(int cost, long count, List<Node> path) { }

    private String draft = "";
    private final List<Entry> entries = new ArrayList<>();
    private final boolean[] invoke = new boolean[4];
    private final boolean[] group = new boolean[4];
    private final int[] ruleLength = new int[4];
    private final int[] rulePart = {1, 1, 1, 1};
    private final int[] ruleCost = new int[4];
    private final int[][] link = new int[8][8];
    private int han = 0;
    private int other = 0;
    private final List<Filter> chain = new ArrayList<>();
    private final List<Set<Posting>> documents = new ArrayList<>();
    private final TreeSet<Integer> waiting = new TreeSet<>();
    private final TreeSet<Integer> dropped = new TreeSet<>();
    private final List<TreeSet<Integer>> segments = new ArrayList<>();
    private TreeSet<Integer> snapshot = new TreeSet<>();

    private static boolean in(int value, int least, int most) {
        return least <= value && value <= most;
    }

    private static long written(String text) {
        long answer = 0;
        for (int i = text.length() - 1; i >= 0; i--) {
            answer = answer * 256 + text.charAt(i);
        }
        return answer;
    }

    boolean type(long s) {
        if (s == 0) {
            draft = "";
            return true;
        }
        StringBuilder more = new StringBuilder();
        for (long rest = s; (rest & 255) != 0; rest = rest >>> 8) {
            more.append((char) (rest & 255));
        }
        if (more.length() == 0 || draft.length() + more.length() > 24) {
            return false;
        }
        draft += more;
        return true;
    }

    int word(int part, int cost, int cuts, int base) {
        if (!in(draft.length(), 1, 8) || !in(part, 1, 7) || !in(cost, -10000, 10000)) {
            return -1;
        }
        for (int bit = 0; bit < 32; bit++) {
            if ((cuts >>> bit & 1) == 1 && !in(bit, 1, draft.length() - 1)) {
                return -1;
            }
        }
        if (!in(base, -1, entries.size() - 1) || cuts != 0 && base != -1 || entries.size() == 40) {
            return -1;
        }
        if (entries.stream().filter(e -> e.surface().equals(draft)).count() == 3) {
            return -1;
        }
        entries.add(new Entry(draft, part, cost, cuts, base));
        return entries.size() - 1;
    }

    boolean rule(int k, int flags, int part, int cost) {
        if (!in(k, 0, 3) || !in(flags, 0, 19) || !in(part, 1, 7) || !in(cost, -10000, 10000)) {
            return false;
        }
        invoke[k] = flags % 2 == 1;
        group[k] = flags / 2 % 2 == 1;
        ruleLength[k] = flags / 4;
        rulePart[k] = part;
        ruleCost[k] = cost;
        return true;
    }

    boolean link(int a, int b, int cost) {
        if (!in(a, 0, 7) || !in(b, 0, 7) || !in(cost, -10000, 10000)) {
            return false;
        }
        link[a][b] = cost;
        return true;
    }

    boolean mode(int newHan, int newOther) {
        if (!in(newHan, 0, 10000) || !in(newOther, 0, 10000)) {
            return false;
        }
        han = newHan;
        other = newOther;
        return true;
    }

    boolean chain(int kind, int v) {
        if (kind == -1) {
            chain.clear();
            return true;
        }
        boolean withValue = kind == 0 || kind == 3;
        if (!in(kind, 0, 3) || withValue && !in(v, 1, 7) || !withValue && v != 0 || chain.size() == 6) {
            return false;
        }
        chain.add(new Filter(kind, v));
        return true;
    }

    private int kindAt(int place) {
        return draft.charAt(place) / 64;
    }

    private List<Node> nodesAt(int p) {
        List<Node> nodes = new ArrayList<>();
        for (int e = 0; e < entries.size(); e++) {
            Entry entry = entries.get(e);
            if (draft.startsWith(entry.surface(), p)) {
                nodes.add(new Node(p, entry.surface().length(), entry.part(), entry.cost(), e));
            }
        }
        int k = kindAt(p);
        Set<Integer> lengths = new TreeSet<>();
        if (nodes.isEmpty() || invoke[k]) {
            int run = 1;
            while (run < 8 && p + run < draft.length() && kindAt(p + run) == k) {
                run++;
            }
            if (group[k]) {
                lengths.add(run);
            }
            for (int length = 1; length <= ruleLength[k]; length++) {
                if (length <= run) {
                    lengths.add(length);
                }
            }
        }
        if (nodes.isEmpty() && lengths.isEmpty()) {
            lengths.add(1);
        }
        for (int length : lengths) {
            nodes.add(new Node(p, length, rulePart[k], ruleCost[k], -1));
        }
        return nodes;
    }

    private boolean hasCuts(int entry) {
        return entry != -1 && entries.get(entry).cuts() != 0;
    }

    private int charge(Node node) {
        if (hasCuts(node.entry())) {
            return 0;
        }
        boolean allHan = draft.substring(node.begin(), node.end()).chars().allMatch(c -> c / 64 == 1);
        if (node.length() > 2 && allHan) {
            return han * (node.length() - 2);
        }
        return node.length() > 4 ? other * (node.length() - 4) : 0;
    }

    private int costOf(List<Node> path, boolean charged) {
        int before = 0;
        int sum = 0;
        for (Node node : path) {
            sum += link[before][node.part()] + node.cost() + (charged ? charge(node) : 0);
            before = node.part();
        }
        return sum + link[before][0];
    }

    /** Below 0 when the first path is taken before the second one of the same cost. */
    private static int compare(List<Node> one, List<Node> two) {
        for (int back = 1; back <= Math.min(one.size(), two.size()); back++) {
            Node a = one.get(one.size() - back);
            Node b = two.get(two.size() - back);
            if (a.length() != b.length()) {
                return b.length() - a.length();
            }
            if (a.entry() != b.entry()) {
                return Integer.compareUnsigned(a.entry(), b.entry());
            }
        }
        return 0;
    }

    private static final class Label {
        private int cost;
        private long count;
        private List<Node> path;
    }

    /** Path by path where there are few enough, and by labels for each place and last part otherwise. */
    private Result best(boolean charged) {
        long[] counts = new long[draft.length() + 1];
        counts[0] = 1;
        for (int p = 0; p < draft.length(); p++) {
            for (Node node : nodesAt(p)) {
                counts[node.end()] += counts[p];
            }
        }
        Result labelled = byLabels(charged);
        if (counts[draft.length()] <= ENUMERATED) {
            Result enumerated = byEnumeration(charged);
            if (!enumerated.equals(labelled)) {
                throw new IllegalStateException("the reference disagrees with itself");
            }
        }
        return labelled;
    }

    private Result byEnumeration(boolean charged) {
        List<List<Node>> paths = new ArrayList<>();
        enumerate(new ArrayList<>(), 0, paths);
        int least = Integer.MAX_VALUE;
        for (List<Node> path : paths) {
            least = Math.min(least, costOf(path, charged));
        }
        long count = 0;
        List<Node> taken = null;
        for (List<Node> path : paths) {
            if (costOf(path, charged) == least) {
                count++;
                taken = taken == null || compare(path, taken) < 0 ? path : taken;
            }
        }
        return new Result(least, count, taken);
    }

    private void enumerate(List<Node> begun, int place, List<List<Node>> paths) {
        if (place == draft.length()) {
            paths.add(new ArrayList<>(begun));
            return;
        }
        for (Node node : nodesAt(place)) {
            begun.add(node);
            enumerate(begun, node.end(), paths);
            begun.remove(begun.size() - 1);
        }
    }

    private Result byLabels(boolean charged) {
        Label[][] labels = new Label[draft.length() + 1][8];
        offer(labels[0], 0, 0, 1, new ArrayList<>());
        for (int p = 0; p < draft.length(); p++) {
            for (Node node : nodesAt(p)) {
                for (int part = 0; part < 8; part++) {
                    Label label = labels[p][part];
                    if (label != null) {
                        List<Node> path = new ArrayList<>(label.path);
                        path.add(node);
                        int step = link[part][node.part()] + node.cost() + (charged ? charge(node) : 0);
                        offer(labels[node.end()], node.part(), label.cost + step, label.count, path);
                    }
                }
            }
        }
        Label[] last = new Label[1];
        for (int part = 0; part < 8; part++) {
            Label label = labels[draft.length()][part];
            if (label != null) {
                offer(last, 0, label.cost + link[part][0], label.count, label.path);
            }
        }
        return new Result(last[0].cost, last[0].count, last[0].path);
    }

    private static void offer(Label[] row, int slot, int cost, long count, List<Node> path) {
        Label label = row[slot];
        if (label == null || cost < label.cost) {
            label = new Label();
            label.cost = cost;
            label.count = count;
            label.path = path;
            row[slot] = label;
        } else if (cost == label.cost) {
            label.count += count;
            label.path = compare(path, label.path) < 0 ? path : label.path;
        }
    }

    int cost() {
        return best(true).cost();
    }

    long paths() {
        return best(true).count();
    }

    int nodes() {
        int count = 0;
        for (int p = 0; p < draft.length(); p++) {
            count += nodesAt(p).size();
        }
        return count;
    }

    private List<Token> cut() {
        List<Token> tokens = new ArrayList<>();
        for (Node node : best(true).path()) {
            int cuts = node.entry() == -1 ? 0 : entries.get(node.entry()).cuts();
            List<Integer> bounds = new ArrayList<>();
            bounds.add(0);
            for (int i = 1; i < node.length(); i++) {
                if ((cuts & 1 << i) != 0) {
                    bounds.add(i);
                }
            }
            bounds.add(node.length());
            for (int i = 0; i + 1 < bounds.size(); i++) {
                int length = bounds.get(i + 1) - bounds.get(i);
                tokens.add(new Token(node.begin() + bounds.get(i), length, node.part(), node.entry()));
            }
        }
        return tokens;
    }

    private Node compound(List<Token> tokens, int i) {
        int begin = tokens.get(i).begin();
        for (Node node : best(false).path()) {
            boolean ends = tokens.stream().anyMatch(t -> t.end() == node.end());
            long held = tokens.stream().filter(t -> t.begin() >= begin && t.end() <= node.end()).count();
            if (node.begin() == begin && ends && held >= 2 && !hasCuts(node.entry())) {
                return node;
            }
        }
        return null;
    }

    int tokens() {
        return cut().size();
    }

    int token(int i, int what) {
        List<Token> tokens = cut();
        if (!in(i, 0, tokens.size() - 1) || !in(what, 0, 4)) {
            return -1;
        }
        Token token = tokens.get(i);
        Node compound = compound(tokens, i);
        int origin = token.entry() == -1 ? 100 + kindAt(token.begin()) : token.entry();
        int[] answers = {token.begin(), token.length(), token.part(), origin,
            compound == null ? 0 : compound.length()};
        return answers[what];
    }

    /** The term, or the empty text when it is dropped. */
    private String filtered(int begin, int end, int part, int entry) {
        String term = draft.substring(begin, end);
        for (Filter filter : chain) {
            if (filter.kind() == 0 && part == filter.v()) {
                return "";
            }
            if (filter.kind() == 1 && entry != -1 && entries.get(entry).base() != -1) {
                term = entries.get(entries.get(entry).base()).surface();
            }
            if (filter.kind() == 2) {
                StringBuilder narrow = new StringBuilder();
                for (char c : term.toCharArray()) {
                    narrow.append(c >= 192 ? (char) (c - 64) : c);
                }
                term = narrow.toString();
            }
            boolean stem = term.length() > filter.v() && term.endsWith("\u00bf");
            if (filter.kind() == 3 && stem && term.chars().allMatch(c -> c / 64 == 2)) {
                term = term.substring(0, term.length() - 1);
            }
        }
        return term;
    }

    private String termOf(Token token) {
        return filtered(token.begin(), token.end(), token.part(), token.entry());
    }

    long term(int i) {
        List<Token> tokens = cut();
        return in(i, 0, tokens.size() - 1) ? written(termOf(tokens.get(i))) : 0;
    }

    int add() {
        if (draft.isEmpty() || documents.size() == 40 || waiting.size() == 4) {
            return -1;
        }
        Set<Posting> postings = new HashSet<>();
        List<Token> tokens = cut();
        for (int i = 0; i < tokens.size(); i++) {
            postings.add(new Posting(termOf(tokens.get(i)), i));
            Node node = compound(tokens, i);
            if (node != null) {
                postings.add(new Posting(filtered(node.begin(), node.end(), node.part(), node.entry()), i));
            }
        }
        postings.removeIf(posting -> posting.term().isEmpty());
        waiting.add(documents.size());
        documents.add(postings);
        return documents.size() - 1;
    }

    boolean drop(int doc) {
        if (!in(doc, 0, documents.size() - 1) || dropped.contains(doc)) {
            return false;
        }
        dropped.add(doc);
        waiting.remove(doc);
        return true;
    }

    private int postings(Set<Integer> set) {
        return set.stream().mapToInt(doc -> documents.get(doc).size()).sum();
    }

    int flush() {
        if (waiting.isEmpty()) {
            return -1;
        }
        int answer = postings(waiting);
        segments.add(new TreeSet<>(waiting));
        waiting.clear();
        if (segments.size() < 4) {
            return answer;
        }
        int fewest = 0;
        for (int i = 2; i >= 0; i--) {
            int size = segments.get(i).size() + segments.get(i + 1).size();
            if (size <= segments.get(fewest).size() + segments.get(fewest + 1).size()) {
                fewest = i;
            }
        }
        TreeSet<Integer> merged = segments.remove(fewest);
        merged.addAll(segments.remove(fewest));
        merged.removeAll(dropped);
        if (!merged.isEmpty()) {
            segments.add(fewest, merged);
        }
        return answer + postings(merged);
    }

    int segment(int i) {
        if (i == -1) {
            return segments.size();
        }
        return in(i, 0, segments.size() - 1) ? segments.get(i).size() : -1;
    }

    int open() {
        snapshot = new TreeSet<>();
        segments.forEach(snapshot::addAll);
        snapshot.removeAll(dropped);
        return snapshot.size();
    }

    int places(int doc) {
        if (!snapshot.contains(doc)) {
            return 0;
        }
        List<Posting> query = new ArrayList<>();
        List<Token> tokens = cut();
        for (int q = 0; q < tokens.size(); q++) {
            if (!termOf(tokens.get(q)).isEmpty()) {
                query.add(new Posting(termOf(tokens.get(q)), q));
            }
        }
        int found = 0;
        for (int p = -30; p <= 30 && !query.isEmpty(); p++) {
            int shift = p - query.get(0).position();
            boolean all = true;
            for (Posting asked : query) {
                all &= documents.get(doc).contains(new Posting(asked.term(), asked.position() + shift));
            }
            found += all ? 1 : 0;
        }
        return found;
    }

    int match(int from) {
        for (int doc : snapshot) {
            if (doc >= from && places(doc) > 0) {
                return doc;
            }
        }
        return -1;
    }
}
