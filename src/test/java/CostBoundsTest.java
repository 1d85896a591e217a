/** The limits of links, mode, charges and paths: promises 5, 6, 8 and 9, and what 'Terms' says of them. */
public final class CostBoundsTest {
    public static void main(String[] args) {
        Checks checks = new Checks();
        linkPartsAre0To7(checks);
        linkCostIsWithin10000(checks);
        everyLinkIsItsOwn(checks);
        modeIs0To10000(checks);
        refusedModeChangesNeither(checks);
        hanIsChargedBeyond2(checks);
        otherIsChargedBeyond4(checks);
        hanIsAllOfClass1(checks);
        hanIsNeverChargedAsOther(checks);
        cutsAreNotCharged(checks);
        emptyDraftHasOnePath(checks);
        edgesAreLinked(checks);
        dearestPathIsCounted(checks);
        cheapestPathIsCounted(checks);
        pathsOfLeastCostAloneCount(checks);
        chargesCountForThePaths(checks);
        mostPathsAreCounted(checks);
        checks.finish();
    }

    /** "for parts a and b 0 .. 7", "refused, false, when a number is not as said" */
    private static void linkPartsAre0To7(Checks checks) {
        checks.dueRange("link from part", 0, 7, a -> new MorphIndex().link(a, 3, 5));
        checks.dueRange("link to part", 0, 7, b -> new MorphIndex().link(3, b, 5));
    }

    /** "is a cost -10000 .. 10000" */
    private static void linkCostIsWithin10000(Checks checks) {
        checks.dueRange("link of cost", -10000, 10000, cost -> {
            MorphIndex x = new MorphIndex();
            boolean taken = x.link(0, 0, cost);
            checks.due("cost after link of cost " + cost, x.cost(), taken ? cost : 0);
            return taken;
        });
    }

    /** "LINK(a, b) becomes cost": this one and none beside it, whatever wrong numbers come before. */
    private static void everyLinkIsItsOwn(Checks checks) {
        int[][] wrong = {{-1, 0}, {0, -1}, {8, 0}, {0, 8}, {-1, 8}, {1, -8}, {-1, 15}, {1, 8}, {7, 8}};
        for (int[] w : wrong) {
            MorphIndex x = withSevenParts();
            checks.due("link(" + w[0] + ", " + w[1] + ")", x.link(w[0], w[1], 5), false);
            dueLinks(checks, x, -1, -1);
        }
        for (int a = 0; a < 8; a += 7) {
            for (int b = 0; b < 8; b += 7) {
                MorphIndex x = withSevenParts();
                checks.due("link(" + a + ", " + b + ")", x.link(a, b, 5), true);
                dueLinks(checks, x, a, b);
            }
        }
    }

    /** Entry i is the character 65 + i, of part i + 1 and cost 0. */
    private static MorphIndex withSevenParts() {
        MorphIndex x = new MorphIndex();
        for (int i = 0; i < 7; i++) {
            Checks.enter(x, i + 1, 0, 65 + i);
        }
        return x;
    }

    /** LINK(a, b) is 5 and every other one 0: seen in the empty draft, in drafts of one and of two characters. */
    private static void dueLinks(Checks checks, MorphIndex x, int a, int b) {
        x.type(0);
        checks.due("link(0, 0)", x.cost(), a == 0 && b == 0 ? 5 : 0);
        for (int i = 1; i < 8; i++) {
            Checks.draft(x, 64 + i);
            int due = (a == 0 && b == i ? 5 : 0) + (a == i && b == 0 ? 5 : 0);
            checks.due("link(0, " + i + ") and link(" + i + ", 0)", x.cost(), due);
        }
        for (int i = 1; i < 8; i++) {
            for (int j = 1; j < 8; j++) {
                Checks.draft(x, 64 + i, 64 + j);
                int due = (a == 0 && b == i ? 5 : 0) + (a == i && b == j ? 5 : 0) + (a == j && b == 0 ? 5 : 0);
                checks.due("link(" + i + ", " + j + ")", x.cost(), due);
            }
        }
    }

    /** "two numbers HAN and OTHER 0 .. 10000", "refused, false, when one is not 0 .. 10000" */
    private static void modeIs0To10000(Checks checks) {
        checks.dueRange("mode of han", 0, 10000, han -> {
            MorphIndex x = known(65, 3);
            boolean taken = x.mode(han, 0);
            checks.due("cost after mode(" + han + ", 0)", x.cost(), taken ? han : 0);
            return taken;
        });
        checks.dueRange("mode of other", 0, 10000, other -> {
            MorphIndex x = known(128, 5);
            boolean taken = x.mode(0, other);
            checks.due("cost after mode(0, " + other + ")", x.cost(), taken ? other : 0);
            return taken;
        });
    }

    /** The draft is one entry of cost 0, of so many of one character. */
    private static MorphIndex known(int character, int length) {
        MorphIndex x = new MorphIndex();
        Checks.enter(x, 1, 0, Checks.repeated(character, length));
        return x;
    }

    /** "A call that is refused changes nothing.": one number as said is not taken beside one that is not. */
    private static void refusedModeChangesNeither(Checks checks) {
        int[] wrong = {-1, 10001, Integer.MIN_VALUE, Integer.MAX_VALUE};
        for (int w : wrong) {
            MorphIndex han = known(65, 3);
            han.mode(3, 4);
            checks.due("mode(9, " + w + ")", han.mode(9, w), false);
            checks.due("HAN after it", han.cost(), 3);
            MorphIndex other = known(128, 5);
            other.mode(3, 4);
            checks.due("mode(" + w + ", 9)", other.mode(w, 9), false);
            checks.due("OTHER after it", other.cost(), 4);
        }
    }

    /** "if it is longer than 2 and all its characters are of class 1, HAN * (length - 2)" */
    private static void hanIsChargedBeyond2(Checks checks) {
        int[] due = {0, 0, 10, 20, 30, 40, 50, 60};
        for (int length = 1; length <= 8; length++) {
            MorphIndex x = known(65, length);
            x.mode(10, 0);
            checks.due("known han of " + length, x.cost(), due[length - 1]);
            x = new MorphIndex();
            x.rule(1, 2, 1, 0);
            Checks.draft(x, Checks.repeated(65, length));
            x.mode(10, 0);
            checks.due("unknown han of " + length, x.cost(), due[length - 1]);
        }
    }

    /** "otherwise, if it is longer than 4, OTHER * (length - 4); otherwise 0" */
    private static void otherIsChargedBeyond4(Checks checks) {
        int[] due = {0, 0, 0, 0, 7, 14, 21, 28};
        int[] characters = {1, 63, 128, 191, 192, 255};
        for (int character : characters) {
            for (int length = 1; length <= 8; length++) {
                MorphIndex x = known(character, length);
                x.mode(10, 7);
                checks.due("known other of " + length, x.cost(), due[length - 1]);
                x = new MorphIndex();
                x.rule(character / 64, 2, 1, 0);
                Checks.draft(x, Checks.repeated(character, length));
                x.mode(10, 7);
                checks.due("unknown other of " + length, x.cost(), due[length - 1]);
            }
        }
    }

    /** "all its characters are of class 1": 64 and 127 are, 63 and 128 are not, wherever they stand. */
    private static void hanIsAllOfClass1(Checks checks) {
        for (int length = 3; length <= 8; length++) {
            int han = 10 * (length - 2);
            int other = length > 4 ? 7 * (length - 4) : 0;
            int[][] edges = {{64, han}, {127, han}, {63, other}, {128, other}, {192, other}};
            for (int place = 0; place < length; place++) {
                for (int[] edge : edges) {
                    int[] surface = Checks.repeated(100, length);
                    surface[place] = edge[0];
                    MorphIndex x = new MorphIndex();
                    Checks.enter(x, 1, 0, surface);
                    x.mode(10, 7);
                    checks.due(edge[0] + " at " + place + " of " + length, x.cost(), edge[1]);
                }
            }
        }
    }

    /** "otherwise": one that is charged by HAN is not charged by OTHER, though HAN is 0. */
    private static void hanIsNeverChargedAsOther(Checks checks) {
        MorphIndex x = known(65, 8);
        x.mode(0, 7);
        checks.due("han of 8 with HAN 0", x.cost(), 0);
        x.mode(1, 10000);
        checks.due("han of 8 with HAN 1", x.cost(), 6);
    }

    /** "0 if it is of an entry that has cuts" */
    private static void cutsAreNotCharged(Checks checks) {
        for (int length = 2; length <= 8; length++) {
            for (int character : new int[] {65, 128}) {
                for (int place = 1; place < length; place++) {
                    MorphIndex x = Checks.drafted(Checks.repeated(character, length));
                    x.word(1, 3, 1 << place, -1);
                    x.mode(10000, 10000);
                    checks.due("an entry of " + length + " with cut " + place, x.cost(), 3);
                }
            }
        }
    }

    /** "the empty draft has one path, without nodes", "(a path without nodes: LINK(0, 0))" */
    private static void emptyDraftHasOnePath(Checks checks) {
        MorphIndex x = new MorphIndex();
        for (int cost : new int[] {0, 10000, -10000}) {
            x.link(0, 0, cost);
            checks.due("cost of the empty draft", x.cost(), cost);
            checks.due("paths of the empty draft", x.paths(), 1);
            checks.due("tokens of the empty draft", x.tokens(), 0);
        }
        x.type(65);
        checks.due("LINK(0, 0) is in no other path", x.cost(), 0);
    }

    /** "part 0 stands before the first node and behind the last one" */
    private static void edgesAreLinked(Checks checks) {
        MorphIndex x = new MorphIndex();
        x.link(0, 1, 1);
        x.link(1, 1, 100);
        x.link(1, 0, 10000);
        for (int size = 1; size <= 24; size++) {
            Checks.draft(x, Checks.repeated(65, size));
            checks.due("links of " + size + " nodes", x.cost(), 1 + 100 * (size - 1) + 10000);
        }
    }

    /** 24 nodes and 25 links of 10000, and three nodes of 8 with the greatest charge. */
    private static void dearestPathIsCounted(Checks checks) {
        MorphIndex x = linked(10000);
        x.rule(1, 0, 1, 10000);
        checks.due("24 nodes of the greatest cost", x.cost(), 24 * 10000 + 25 * 10000);
        checks.due("one path of them", x.paths(), 1);
        checks.due("24 tokens of them", x.tokens(), 24);
        x.rule(1, 2, 1, 10000);
        x.mode(10000, 10000);
        checks.due("three nodes of the greatest charge", x.cost(), 3 * 70000 + 4 * 10000);
    }

    private static void cheapestPathIsCounted(Checks checks) {
        MorphIndex x = linked(-10000);
        x.rule(1, 18, 1, -10000);
        checks.due("24 nodes of the least cost", x.cost(), -24 * 10000 - 25 * 10000);
        checks.due("one path of them", x.paths(), 1);
        checks.due("24 tokens of them", x.tokens(), 24);
    }

    /** A draft of 24 of class 1, and every link of this cost. */
    private static MorphIndex linked(int cost) {
        MorphIndex x = Checks.drafted(Checks.repeated(65, 24));
        for (int a = 0; a < 8; a++) {
            for (int b = 0; b < 8; b++) {
                x.link(a, b, cost);
            }
        }
        return x;
    }

    /** "How many paths of the draft have the least cost." */
    private static void pathsOfLeastCostAloneCount(Checks checks) {
        MorphIndex x = new MorphIndex();
        Checks.enter(x, 1, 1, 65);
        Checks.enter(x, 1, 2, 65, 65);
        checks.due("equal paths", x.paths(), 2);
        Checks.enter(x, 1, 1, 65, 65);
        checks.due("one more that is cheaper", x.paths(), 1);
        Checks.enter(x, 1, 1, 65, 65);
        checks.due("two more that are cheaper", x.paths(), 2);
        x.mode(0, 10000);
        checks.due("two that are not charged", x.paths(), 2);
        Checks.draft(x, 65, 65, 65);
        checks.due("paths of three characters", x.paths(), 4);
        checks.due("cost of three characters", x.cost(), 2);
    }

    /** The least cost is that with the charges: 1 less or more of them, and the paths are others. */
    private static void chargesCountForThePaths(Checks checks) {
        MorphIndex x = new MorphIndex();
        Checks.enter(x, 1, 1, 65);
        Checks.enter(x, 2, 0, 65, 65, 65);
        int[][] due = {{0, 0, 1}, {1, 1, 1}, {2, 2, 1}, {3, 3, 2}, {4, 3, 1}, {10000, 3, 1}};
        for (int[] d : due) {
            x.mode(d[0], 0);
            checks.due("cost with HAN " + d[0], x.cost(), d[1]);
            checks.due("paths with HAN " + d[0], x.paths(), d[2]);
            checks.due("tokens with HAN " + d[0], x.tokens(), d[0] > 3 ? 3 : 1);
        }
    }

    /** The most paths there can be: every length three times known and, as far as it goes, unknown. */
    private static void mostPathsAreCounted(Checks checks) {
        MorphIndex x = new MorphIndex();
        x.rule(1, 17, 1, 0);
        long[] due = new long[25];
        due[0] = 1;
        for (int length = 1; length <= 8; length++) {
            for (int i = 0; i < 3; i++) {
                Checks.enter(x, 1, 0, Checks.repeated(65, length));
            }
        }
        for (int size = 1; size <= 24; size++) {
            for (int length = 1; length <= Math.min(8, size); length++) {
                due[size] += due[size - length] * (length <= 4 ? 4 : 3);
            }
            Checks.draft(x, Checks.repeated(65, size));
            checks.due("the most paths of " + size, x.paths(), due[size]);
        }
        checks.due("more paths than an int holds", due[24] > Integer.MAX_VALUE, true);
    }
}
