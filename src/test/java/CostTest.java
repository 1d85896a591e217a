/** Promises 5, 6, 8 and 9: link, mode, cost and paths. */
public final class CostTest {
    public static void main(String[] args) {
        Checks checks = new Checks();
        refusesWrongLinks(checks);
        linksNeighboursAndEdges(checks);
        linksTheEmptyDraft(checks);
        findsTheLeastOfAll(checks);
        refusesWrongModes(checks);
        chargesHan(checks);
        chargesOthers(checks);
        chargesNoCuts(checks);
        holdsGreatCosts(checks);
        countsPaths(checks);
        checks.finish();
    }

    /** Entry i is the character 65 + i, of part i + 1 and cost 0. */
    private static MorphIndex withSevenParts() {
        MorphIndex x = new MorphIndex();
        for (int i = 0; i < 7; i++) {
            Checks.draft(x, 65 + i);
            x.word(i + 1, 0, 0, -1);
        }
        return x;
    }

    private static void refusesWrongLinks(Checks checks) {
        MorphIndex x = new MorphIndex();
        int[][] wrong = {{-1, 0, 5}, {8, 0, 5}, {0, -1, 5}, {0, 8, 5}, {0, 0, 10001}, {0, 0, -10001},
            {Integer.MIN_VALUE, 0, 5}, {0, Integer.MAX_VALUE, 5}, {0, 0, Integer.MIN_VALUE}, {1, -8, 5}};
        for (int[] l : wrong) {
            checks.due("link " + java.util.Arrays.toString(l), x.link(l[0], l[1], l[2]), false);
        }
        checks.due("cost after refused links", x.cost(), 0);
        checks.due("link(7, 7, 10000)", x.link(7, 7, 10000), true);
        checks.due("link(0, 0, -10000)", x.link(0, 0, -10000), true);
        checks.due("cost after link(0, 0)", x.cost(), -10000);
    }

    private static void linksNeighboursAndEdges(Checks checks) {
        MorphIndex x = withSevenParts();
        for (int a = 0; a < 8; a++) {
            for (int b = 0; b < 8; b++) {
                x.link(a, b, 100 * a + b + 1);
            }
        }
        Checks.draft(x, 65, 66, 71);
        checks.due("cost of the parts 1, 2, 7", x.cost(), 2 + 103 + 208 + 701);
        Checks.draft(x, 68);
        checks.due("cost of the part 4", x.cost(), 5 + 401);
        x.link(0, 4, -7);
        checks.due("cost after a link is changed", x.cost(), -7 + 401);
    }

    private static void linksTheEmptyDraft(Checks checks) {
        MorphIndex x = new MorphIndex();
        x.link(0, 0, 42);
        checks.due("cost of the empty draft", x.cost(), 42);
        checks.due("paths of the empty draft", x.paths(), 1);
        x.type(65);
        checks.due("link(0, 0) counts for the empty draft alone", x.cost(), 0);
        x.type(0);
        checks.due("cost of the emptied draft", x.cost(), 42);
    }

    private static void findsTheLeastOfAll(Checks checks) {
        MorphIndex x = new MorphIndex();
        x.type(65);
        x.word(1, 0, 0, -1);
        x.word(2, 10, 0, -1);
        x.type(65);
        checks.due("the cheaper part", x.cost(), 0);
        x.link(1, 0, 100);
        checks.due("a dear end is gone round", x.cost(), 10);
        checks.due("its paths", x.paths(), 1);
        x.link(1, 2, 100);
        checks.due("a dear middle is gone round", x.cost(), 20);
        x.link(2, 2, -50);
        checks.due("links below 0", x.cost(), -30);
        x.link(2, 2, 80);
        checks.due("the dear middle and the dear end are equal", x.cost(), 100);
        checks.due("both ways count", x.paths(), 2);
    }

    private static void refusesWrongModes(Checks checks) {
        MorphIndex x = new MorphIndex();
        int[] wrong = {-1, 10001, Integer.MIN_VALUE, Integer.MAX_VALUE};
        for (int w : wrong) {
            checks.due("mode(" + w + ", 0)", x.mode(w, 0), false);
            checks.due("mode(5, " + w + ")", x.mode(5, w), false);
        }
        x.rule(1, 2, 1, 0);
        Checks.draft(x, Checks.repeated(65, 8));
        checks.due("cost after refused modes", x.cost(), 0);
        checks.due("mode(10000, 0)", x.mode(10000, 0), true);
        checks.due("cost of the greatest mode", x.cost(), 60000);
        checks.due("mode(0, 10000)", x.mode(0, 10000), true);
        checks.due("cost of han alone", x.cost(), 0);
        checks.due("mode(0, 0)", x.mode(0, 0), true);
    }

    private static void chargesHan(Checks checks) {
        for (int length = 1; length <= 8; length++) {
            MorphIndex x = new MorphIndex();
            x.rule(1, 2, 1, 0);
            Checks.draft(x, Checks.repeated(127, length));
            x.mode(10, 7);
            checks.due("unknown han of " + length, x.cost(), length > 2 ? 10 * (length - 2) : 0);
            x.word(1, -3, 0, -1);
            checks.due("known han of " + length, x.cost(), (length > 2 ? 10 * (length - 2) : 0) - 3);
        }
    }

    private static void chargesOthers(Checks checks) {
        for (int length = 1; length <= 8; length++) {
            int[][] drafts = {Checks.repeated(1, length), Checks.repeated(128, length), Checks.repeated(65, length)};
            drafts[2][length - 1] = 63;
            for (int[] draft : drafts) {
                MorphIndex x = new MorphIndex();
                Checks.draft(x, draft);
                x.word(1, -100, 0, -1);
                x.mode(10, 7);
                checks.due("known other of " + length, x.cost(), (length > 4 ? 7 * (length - 4) : 0) - 100);
            }
        }
        MorphIndex x = new MorphIndex();
        x.rule(2, 2, 1, 0);
        Checks.draft(x, Checks.repeated(128, 6));
        x.mode(10, 7);
        checks.due("unknown other of 6", x.cost(), 14);
    }

    private static void chargesNoCuts(Checks checks) {
        MorphIndex x = new MorphIndex();
        Checks.draft(x, Checks.repeated(65, 8));
        x.word(1, 4, 2, -1);
        Checks.draft(x, Checks.repeated(3, 8));
        x.word(1, 5, 128, -1);
        x.mode(10000, 10000);
        checks.due("other with cuts", x.cost(), 5);
        Checks.draft(x, Checks.repeated(65, 8));
        checks.due("han with cuts", x.cost(), 4);
        checks.due("han with cuts is one node", x.tokens(), 2);
    }

    private static void holdsGreatCosts(Checks checks) {
        MorphIndex x = new MorphIndex();
        x.rule(1, 2, 1, 10000);
        x.mode(10000, 10000);
        x.link(0, 1, 10000);
        x.link(1, 1, 10000);
        x.link(1, 0, 10000);
        Checks.draft(x, Checks.repeated(65, 24));
        checks.due("cost of three great nodes", x.cost(), 3 * 70000 + 4 * 10000);
        x.rule(1, 0, 1, -10000);
        x.link(0, 1, -10000);
        x.link(1, 1, -10000);
        x.link(1, 0, -10000);
        checks.due("cost of 24 least nodes", x.cost(), -24 * 10000 - 25 * 10000);
    }

    private static void countsPaths(Checks checks) {
        MorphIndex x = new MorphIndex();
        x.rule(1, 8, 1, 0);
        long before = 1;
        long ways = 1;
        for (int length = 1; length <= 24; length++) {
            Checks.draft(x, Checks.repeated(65, length));
            checks.due("paths of " + length, x.paths(), ways);
            long next = before + ways;
            before = ways;
            ways = next;
        }
        x.rule(1, 8, 1, 1);
        checks.due("paths of the least cost alone", x.paths(), 1);
        x.type(0);
        Checks.draft(x, Checks.repeated(65, 23));
        checks.due("paths with one single", x.paths(), 12);
    }
}
