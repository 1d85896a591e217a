/** Promises 4 and 10: rule, nodes, and the unknown nodes of the terms. */
public final class RuleTest {
    public static void main(String[] args) {
        Checks checks = new Checks();
        refusesWrongNumbers(checks);
        givesPartAndCost(checks);
        givesLengths(checks);
        givesTheRun(checks);
        cutsTheRunAtEight(checks);
        looksForInvoke(checks);
        countsUnreachedNodes(checks);
        countsTheMostNodes(checks);
        checks.finish();
    }

    private static void refusesWrongNumbers(Checks checks) {
        MorphIndex x = new MorphIndex();
        int[][] wrong = {{-1, 0, 1, 0}, {4, 0, 1, 0}, {0, -1, 1, 0}, {0, 20, 1, 0}, {0, 0, 0, 0}, {0, 0, 8, 0},
            {0, 0, -1, 0}, {0, 0, 1, 10001}, {0, 0, 1, -10001}, {Integer.MIN_VALUE, 0, 1, 0},
            {0, Integer.MIN_VALUE, 1, 0}, {0, Integer.MAX_VALUE, 1, 0}, {0, 0, 1, Integer.MIN_VALUE}};
        for (int[] r : wrong) {
            checks.due("rule " + java.util.Arrays.toString(r), x.rule(r[0], r[1], r[2], r[3]), false);
        }
        Checks.draft(x, 1, 2, 3);
        checks.due("nodes after refused rules", x.nodes(), 3);
        checks.due("cost after refused rules", x.cost(), 0);
        checks.due("part after refused rules", x.token(0, 2), 1);
        checks.due("rule of the greatest numbers", x.rule(3, 19, 7, 10000), true);
        checks.due("rule of the least numbers", x.rule(0, 0, 1, -10000), true);
        checks.due("cost of the least", x.cost(), -30000);
    }

    private static void givesPartAndCost(Checks checks) {
        MorphIndex x = new MorphIndex();
        for (int k = 0; k < 4; k++) {
            checks.due("rule of class " + k, x.rule(k, 0, k + 2, 10 << k), true);
        }
        Checks.draft(x, 63, 64, 127, 128, 191, 192);
        checks.due("cost", x.cost(), 10 + 20 + 20 + 40 + 40 + 80);
        int[] parts = {2, 3, 3, 4, 4, 5};
        for (int i = 0; i < parts.length; i++) {
            checks.due("part " + i, x.token(i, 2), parts[i]);
            checks.due("origin " + i, x.token(i, 3), 98 + parts[i]);
        }
    }

    private static void givesLengths(Checks checks) {
        for (int length = 1; length <= 4; length++) {
            MorphIndex x = new MorphIndex();
            x.rule(1, 4 * length, 1, 1);
            Checks.draft(x, Checks.repeated(65, 6));
            int due = 6 * length - length * (length - 1) / 2;
            checks.due("nodes of length " + length, x.nodes(), due);
            checks.due("cost of length " + length, x.cost(), (6 + length - 1) / length);
            Checks.draft(x, 65, 66, 1, 67);
            checks.due("nodes of length " + length + " in short runs", x.nodes(), length == 1 ? 4 : 5);
        }
    }

    private static void givesTheRun(Checks checks) {
        MorphIndex x = new MorphIndex();
        x.rule(2, 2, 1, 1);
        Checks.draft(x, 128, 191, 150, 64, 129);
        checks.due("one node for each run", x.nodes(), 5);
        checks.due("cost of two runs", x.cost(), 2);
        checks.due("tokens of two runs", x.tokens(), 3);
        checks.due("length of the run", x.token(0, 1), 3);
        x.rule(2, 14, 1, 1);
        checks.due("run and length 3 give one node", x.nodes(), 3 + 2 + 1 + 1 + 1);
        x.rule(2, 10, 1, 1);
        checks.due("run and length 2", x.nodes(), 3 + 2 + 1 + 1 + 1);
        x.rule(2, 6, 1, 1);
        checks.due("run and length 1", x.nodes(), 2 + 2 + 1 + 1 + 1);
        checks.due("paths() counts no node twice", x.paths(), 1);
    }

    private static void cutsTheRunAtEight(Checks checks) {
        MorphIndex x = new MorphIndex();
        x.rule(1, 2, 1, 1);
        Checks.draft(x, Checks.repeated(100, 9));
        checks.due("nodes of a run of 9", x.nodes(), 9);
        checks.due("cost of a run of 9", x.cost(), 2);
        checks.due("tokens of a run of 9", x.tokens(), 2);
        checks.due("first length of a run of 9", x.token(0, 1), 8);
        checks.due("last length of a run of 9", x.token(1, 1), 1);
        Checks.draft(x, Checks.repeated(100, 8));
        checks.due("tokens of a run of 8", x.tokens(), 1);
        checks.due("term of a run of 8", x.term(0), Checks.text(Checks.repeated(100, 8)));
    }

    private static void looksForInvoke(Checks checks) {
        MorphIndex x = new MorphIndex();
        Checks.draft(x, 65, 66);
        x.word(2, 0, 0, -1);
        Checks.draft(x, 65, 66, 67);
        x.rule(1, 6, 3, 5);
        checks.due("known at 0, unknown at 1 and 2", x.nodes(), 1 + 2 + 1);
        x.rule(1, 7, 3, 5);
        checks.due("invoke at 0 too", x.nodes(), 3 + 2 + 1);
        x.rule(1, 1, 3, 5);
        checks.due("invoke without group and length", x.nodes(), 1 + 1 + 1);
        x.rule(1, 3, 3, -5);
        checks.due("invoke with group", x.nodes(), 2 + 1 + 1);
        checks.due("the group is cheaper", x.token(0, 1), 3);
        x.rule(1, 0, 3, 5);
        x.rule(0, 3, 3, 5);
        checks.due("invoke of another class", x.nodes(), 1 + 1 + 1);
    }

    private static void countsUnreachedNodes(Checks checks) {
        MorphIndex x = new MorphIndex();
        Checks.draft(x, 66, 67);
        x.word(2, -50, 0, -1);
        x.rule(1, 2, 1, 0);
        Checks.draft(x, 65, 66, 67);
        checks.due("nodes with unreached ones", x.nodes(), 3);
        checks.due("cost without unreached ones", x.cost(), 0);
        checks.due("paths without unreached ones", x.paths(), 1);
        checks.due("tokens without unreached ones", x.tokens(), 1);
    }

    private static void countsTheMostNodes(Checks checks) {
        MorphIndex x = new MorphIndex();
        for (int length = 1; length <= 8; length++) {
            Checks.draft(x, Checks.repeated(65, length));
            for (int i = 0; i < 3; i++) {
                x.word(1, 0, 0, -1);
            }
        }
        x.rule(1, 19, 1, 0);
        Checks.draft(x, Checks.repeated(65, 24));
        int due = 0;
        for (int left = 1; left <= 24; left++) {
            due += 3 * Math.min(left, 8) + Math.min(left, 4) + (left > 4 ? 1 : 0);
        }
        checks.due("the most nodes", x.nodes(), due);
        checks.due("the most paths", x.paths(), pathsOfTheMost());
        checks.due("the longest and known, from the end", x.token(2, 3), 21);
    }

    private static long pathsOfTheMost() {
        long[] ways = new long[25];
        ways[0] = 1;
        for (int end = 1; end <= 24; end++) {
            for (int length = 1; length <= Math.min(8, end); length++) {
                int left = 24 - (end - length);
                boolean unknown = length <= 4 || length == Math.min(8, left);
                ways[end] += ways[end - length] * (unknown ? 4 : 3);
            }
        }
        return ways[24];
    }
}
