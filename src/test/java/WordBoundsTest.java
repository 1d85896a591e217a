/** The limits of the entries: promise 3, and what 'Terms' says of entries. */
public final class WordBoundsTest {
    public static void main(String[] args) {
        Checks checks = new Checks();
        surfaceHas1To8(checks);
        partIs1To7(checks);
        costIsWithin10000(checks);
        cutsAreInside(checks);
        everySetOfCutsInsideIsTaken(checks);
        baseWasMadeBefore(checks);
        baseMayHaveAnything(checks);
        hasNotBothCutsAndBase(checks);
        areAtMost40(checks);
        areAtMost3OfOneSurface(checks);
        otherSurfacesAreOthers(checks);
        refusedOnesTakeNoNumber(checks);
        checks.finish();
    }

    /** "Refused, NONE, when the draft is empty or longer than 8" */
    private static void surfaceHas1To8(Checks checks) {
        for (int size = 0; size <= 24; size++) {
            MorphIndex x = Checks.drafted(Checks.repeated(65, size));
            boolean taken = size >= 1 && size <= 8;
            checks.due("word of " + size, x.word(2, -5, 0, -1), taken ? 0 : -1);
            checks.due("cost of the draft of " + size, x.cost(), taken ? -5 : 0);
            checks.due("tokens of the draft of " + size, x.tokens(), taken ? 1 : size);
        }
    }

    /** "a part 1 .. 7", "a number is not as said" */
    private static void partIs1To7(Checks checks) {
        checks.dueRange("word of part", 1, 7, part -> {
            MorphIndex x = Checks.drafted(65);
            int number = x.word(part, 5, 0, -1);
            checks.due("cost after word of part " + part, x.cost(), number == 0 ? 5 : 0);
            checks.due("part after word of part " + part, x.token(0, 2), number == 0 ? part : 1);
            checks.due("nodes after word of part " + part, x.nodes(), 1);
            return number == 0;
        });
    }

    /** "a cost -10000 .. 10000", "a number is not as said" */
    private static void costIsWithin10000(Checks checks) {
        checks.dueRange("word of cost", -10000, 10000, cost -> {
            MorphIndex x = Checks.drafted(65);
            int number = x.word(3, cost, 0, -1);
            checks.due("cost after word of cost " + cost, x.cost(), number == 0 ? cost : 0);
            checks.due("part after word of cost " + cost, x.token(0, 2), number == 0 ? 3 : 1);
            return number == 0;
        });
    }

    /** "CUTS (a set of places 1 .. length - 1 of the surface)", "a bit of cuts that is not one of 1 .. length - 1" */
    private static void cutsAreInside(Checks checks) {
        for (int length = 1; length <= 8; length++) {
            for (int bit = 0; bit < 32; bit++) {
                MorphIndex x = Checks.drafted(Checks.repeated(65, length));
                boolean taken = bit >= 1 && bit <= length - 1;
                String name = "word of " + length + " with cut " + bit;
                checks.due(name, x.word(2, -5, 1 << bit, -1), taken ? 0 : -1);
                checks.due("tokens after " + name, x.tokens(), taken ? 2 : length);
                checks.due("first length after " + name, x.token(0, 1), taken ? bit : 1);
                checks.due("cost after " + name, x.cost(), taken ? -5 : 0);
            }
        }
    }

    /** The same limits for sets of several places: all of them, and all of them with one more on each side. */
    private static void everySetOfCutsInsideIsTaken(Checks checks) {
        for (int length = 1; length <= 8; length++) {
            int all = (1 << length) - 2;
            int[] wrong = {all | 1, all | 1 << length, all | Integer.MIN_VALUE, -1, -2, Integer.MAX_VALUE};
            for (int cuts : wrong) {
                MorphIndex x = Checks.drafted(Checks.repeated(65, length));
                checks.due("word of " + length + " with cuts " + cuts, x.word(2, -5, cuts, -1), -1);
                checks.due("cost after cuts " + cuts, x.cost(), 0);
            }
            MorphIndex x = Checks.drafted(Checks.repeated(65, length));
            checks.due("word of " + length + " with every cut", x.word(2, -5, all, -1), 0);
            checks.dueLengths("every cut of " + length, x, Checks.repeated(1, length));
            checks.due("cost with every cut", x.cost(), -5);
        }
    }

    /** "perhaps a BASE (an entry that was made before it)", "the number of an entry, or -1: none" */
    private static void baseWasMadeBefore(Checks checks) {
        for (int entries : new int[] {0, 1, 2, 20, 39}) {
            for (int base : new int[] {-2, -1, 0, entries - 1, entries, entries + 1, 39, 40, Integer.MIN_VALUE,
                Integer.MAX_VALUE}) {
                MorphIndex x = withEntries(entries);
                Checks.draft(x, 200);
                boolean taken = base >= -1 && base < entries;
                String name = "word behind " + entries + " with base " + base;
                checks.due(name, x.word(2, 5, 0, base), taken ? entries : -1);
                x.chain(1, 0);
                checks.due("term after " + name, x.term(0), taken && base >= 0 ? 10 + base : 200);
                checks.due("cost after " + name, x.cost(), taken ? 5 : 0);
            }
        }
    }

    /** Entry i is the character 10 + i. */
    private static MorphIndex withEntries(int count) {
        MorphIndex x = new MorphIndex();
        for (int i = 0; i < count; i++) {
            Checks.enter(x, 1, 0, 10 + i);
        }
        return x;
    }

    /** A base may have cuts, a base of its own, or the same surface: the document refuses none of these. */
    private static void baseMayHaveAnything(Checks checks) {
        MorphIndex x = Checks.drafted(65, 66);
        checks.due("word with cuts", x.word(1, 0, 2, -1), 0);
        checks.due("word with a base that has cuts", x.word(1, 0, 0, 0), 1);
        checks.due("word with a base that has a base", x.word(1, 0, 0, 1), 2);
    }

    /** "it has both cuts and a base": base 0 is a base, and cuts 0 are no cuts. */
    private static void hasNotBothCutsAndBase(Checks checks) {
        MorphIndex x = Checks.drafted(65, 66);
        checks.due("word with neither", x.word(1, 0, 0, -1), 0);
        checks.due("word with cuts and base 0", x.word(1, 0, 2, 0), -1);
        checks.due("word with base 0", x.word(1, 0, 0, 0), 1);
        checks.due("word with cuts and base 1", x.word(1, 0, 2, 1), -1);
        checks.due("word with cuts", x.word(1, 0, 2, -1), 2);
        checks.due("nodes of the three and the one behind", x.nodes(), 4);
    }

    /** "ENTRIES .. have numbers 0, 1, .. in the order in which they were made, at most 40", "40 entries are there" */
    private static void areAtMost40(Checks checks) {
        MorphIndex x = new MorphIndex();
        for (int i = 0; i < 40; i++) {
            checks.due("entry " + i, Checks.enter(x, 2, 5, 10 + i), i);
        }
        for (int i = 0; i < 3; i++) {
            checks.due("entry 40 of a new surface", Checks.enter(x, 2, 5, 200 + i), -1);
            checks.due("it is unknown", x.token(0, 3), 103);
            checks.due("entry 40 of an old surface", Checks.enter(x, 2, 5, 10 + i), -1);
            checks.due("the old one alone is known", x.nodes(), 1);
        }
        Checks.draft(x, 10, 49, 50);
        checks.due("the first is there", x.token(0, 3), 0);
        checks.due("the fortieth is there", x.token(1, 3), 39);
        checks.due("the forty-first is not there", x.token(2, 3), 100);
    }

    /** "At most 3 entries have the same surface.", "or 3 with this surface" */
    private static void areAtMost3OfOneSurface(Checks checks) {
        for (int length = 1; length <= 8; length++) {
            MorphIndex x = new MorphIndex();
            int[] surface = Checks.repeated(255, length);
            for (int i = 0; i < 3; i++) {
                checks.due("entry " + i + " of " + length, Checks.enter(x, 1 + i, i, surface), i);
            }
            checks.due("the fourth, as the first", Checks.enter(x, 1, 0, surface), -1);
            checks.due("the fourth, of other numbers", Checks.enter(x, 7, -9, surface), -1);
            checks.due("the fourth, with a base", x.word(7, -9, 0, 0), -1);
            checks.due("the three are there", x.nodes(), 3 + length - 1);
            checks.due("the least of the three", x.cost(), 0);
        }
    }

    /** Surfaces that begin, hold or end one that is there three times are others, whatever comes between. */
    private static void otherSurfacesAreOthers(Checks checks) {
        MorphIndex x = new MorphIndex();
        int[][] others = {{65}, {66}, {65, 66, 67}, {67, 65, 66}, {66, 65}, {65, 67}};
        int number = 0;
        for (int round = 0; round < 3; round++) {
            checks.due("the surface in round " + round, Checks.enter(x, 1, 0, 65, 66), number++);
            for (int[] other : others) {
                checks.due("another one in round " + round, Checks.enter(x, 1, 0, other), number++);
            }
        }
        checks.due("the surface a fourth time", Checks.enter(x, 1, 0, 65, 66), -1);
        for (int[] other : others) {
            checks.due("another one a fourth time", Checks.enter(x, 1, 0, other), -1);
        }
    }

    /** "A call that is refused changes nothing.": neither the numbers nor the room for a surface. */
    private static void refusedOnesTakeNoNumber(Checks checks) {
        MorphIndex x = Checks.drafted(65, 66);
        int[][] wrong = {{0, 0, 0, -1}, {8, 0, 0, -1}, {1, 10001, 0, -1}, {1, -10001, 0, -1}, {1, 0, 1, -1},
            {1, 0, 4, -1}, {1, 0, 0, 0}, {1, 0, 0, -2}};
        for (int turn = 0; turn < 50; turn++) {
            int[] w = wrong[turn % wrong.length];
            checks.due("a wrong word", x.word(w[0], w[1], w[2], w[3]), -1);
        }
        for (int i = 0; i < 3; i++) {
            checks.due("a right word", x.word(1, 0, 0, -1), i);
        }
        checks.due("the fourth", x.word(1, 0, 0, -1), -1);
        checks.due("nodes of the three and the one behind", x.nodes(), 4);
    }
}
