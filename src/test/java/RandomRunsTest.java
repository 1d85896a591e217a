import java.util.Random;

/**
 * All promises: runs of calls, made up from fixed seeds, on the program and on the Reference, which
 * must give the same answers. The costs are mostly small, so that many paths have the same cost.
 */
public final class RandomRunsTest {
    private static final int RUNS = 400;
    private static final int CALLS = 512;
    private static final int MOST_OF_ONE_STEP = 30;
    private static final int[] ALPHABET = {65, 66, 65, 66, 67, 129, 191, 193, 255, 1};
    private static final int[] EDGES = {-10001, -10000, -1, 0, 1, 7, 8, 10000, 10001,
        Integer.MIN_VALUE, Integer.MAX_VALUE};

    private final Checks checks;
    private final Random random;
    private final MorphIndex x = new MorphIndex();
    private final Reference y = new Reference();
    private final String name;
    private final int letters;
    private final int spread;
    private int calls = 0;

    private RandomRunsTest(Checks checks, int seed) {
        this.checks = checks;
        random = new Random(seed);
        name = "run " + seed + ": ";
        letters = 1 + random.nextInt(ALPHABET.length);
        spread = random.nextInt(4) == 0 ? 10000 : random.nextInt(4);
    }

    public static void main(String[] args) {
        Checks checks = new Checks();
        for (int seed = 0; seed < RUNS; seed++) {
            new RandomRunsTest(checks, seed).run();
        }
        checks.finish();
    }

    private void run() {
        while (calls < CALLS - MOST_OF_ONE_STEP) {
            int pick = random.nextInt(20);
            if (pick < 5) {
                change();
            } else if (pick < 10) {
                changeDraft();
            } else if (pick < 12) {
                readDraft();
            } else {
                useIndex();
            }
        }
        while (calls < CALLS) {
            due("tokens()", x.tokens(), y.tokens());
        }
    }

    private void due(String call, long got, long want) {
        calls++;
        checks.due(name + call, got, want);
    }

    private void due(String call, boolean got, boolean want) {
        due(call, got ? 1 : 0, want ? 1 : 0);
    }

    /** A number of the range, or now and then a wrong one or one at an edge. */
    private int number(int least, int most) {
        int pick = random.nextInt(60);
        if (pick == 0) {
            return least - 1;
        }
        if (pick == 1) {
            return most + 1;
        }
        if (pick == 2) {
            return EDGES[random.nextInt(EDGES.length)];
        }
        return least + random.nextInt(most - least + 1);
    }

    private int anyCost() {
        return number(-spread, spread);
    }

    private long anyText(int most) {
        int size = 1 + random.nextInt(most);
        int[] characters = new int[size];
        for (int i = 0; i < size; i++) {
            characters[i] = ALPHABET[random.nextInt(letters)];
        }
        long text = Checks.text(characters);
        if (size < 7 && random.nextInt(20) == 0) {
            text |= 65L << 8 * (size + 1);
        }
        return random.nextInt(60) == 0 ? text << 8 : text;
    }

    private void type(long s) {
        due("type(" + s + ")", x.type(s), y.type(s));
    }

    private void changeDraft() {
        if (random.nextInt(3) != 0) {
            type(0);
        }
        int pieces = random.nextInt(4);
        for (int i = 0; i < pieces; i++) {
            type(anyText(random.nextInt(3) == 0 ? 8 : 4));
        }
    }

    private void change() {
        switch (random.nextInt(8)) {
            case 0, 1, 2 -> word();
            case 3 -> {
                int k = number(0, 3);
                int flags = number(0, 19);
                int part = number(1, 7);
                int cost = anyCost();
                due("rule(" + k + ", " + flags + ", " + part + ", " + cost + ")",
                    x.rule(k, flags, part, cost), y.rule(k, flags, part, cost));
            }
            case 4, 5 -> {
                int a = number(0, 7);
                int b = number(0, 7);
                int cost = anyCost();
                due("link(" + a + ", " + b + ", " + cost + ")", x.link(a, b, cost), y.link(a, b, cost));
            }
            case 6 -> {
                int most = random.nextInt(3) == 0 ? 10000 : 3;
                int han = number(0, most);
                int other = number(0, most);
                due("mode(" + han + ", " + other + ")", x.mode(han, other), y.mode(han, other));
            }
            default -> filter();
        }
    }

    private void word() {
        if (random.nextInt(8) != 0) {
            type(0);
            type(anyText(random.nextInt(3) == 0 ? 8 : 3));
        }
        int part = number(1, 7);
        int cost = anyCost();
        int cuts = random.nextInt(3) == 0 ? number(0, 127) & ~1 : random.nextInt(30) == 0 ? number(-1, 1) : 0;
        int base = random.nextInt(3) == 0 ? number(-1, 8) : -1;
        due("word(" + part + ", " + cost + ", " + cuts + ", " + base + ")",
            x.word(part, cost, cuts, base), y.word(part, cost, cuts, base));
    }

    private void filter() {
        int kind = number(0, 3);
        boolean withValue = kind == 0 || kind == 3;
        int v = withValue ? number(1, 7) : random.nextInt(20) == 0 ? 1 : 0;
        due("chain(" + kind + ", " + v + ")", x.chain(kind, v), y.chain(kind, v));
    }

    private void readDraft() {
        due("cost()", x.cost(), y.cost());
        due("paths()", x.paths(), y.paths());
        due("nodes()", x.nodes(), y.nodes());
        int tokens = y.tokens();
        due("tokens()", x.tokens(), tokens);
        for (int turn = 0; turn < 12; turn++) {
            int i = number(0, tokens);
            int what = number(0, 4);
            due("token(" + i + ", " + what + ")", x.token(i, what), y.token(i, what));
            due("term(" + i + ")", x.term(i), y.term(i));
        }
    }

    private void useIndex() {
        switch (random.nextInt(9)) {
            case 0, 1 -> due("add()", x.add(), y.add());
            case 2 -> {
                int doc = number(0, 12);
                due("drop(" + doc + ")", x.drop(doc), y.drop(doc));
            }
            case 3 -> due("flush()", x.flush(), y.flush());
            case 4, 5 -> {
                for (int i = -2; i < 5; i++) {
                    due("segment(" + i + ")", x.segment(i), y.segment(i));
                }
            }
            case 6 -> due("open()", x.open(), y.open());
            case 7 -> {
                int from = number(0, 12);
                due("match(" + from + ")", x.match(from), y.match(from));
            }
            default -> {
                int doc = number(0, 12);
                due("places(" + doc + ")", x.places(doc), y.places(doc));
            }
        }
    }
}
