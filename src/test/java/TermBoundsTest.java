/** The limits of the chain and of terms: promises 7 and 13, and what 'Terms' says of filters. */
public final class TermBoundsTest {
    private static final int STOP = 0;
    private static final int BASE = 1;
    private static final int NARROW = 2;
    private static final int STEM = 3;

    public static void main(String[] args) {
        Checks checks = new Checks();
        kindIsOneOfThese(checks);
        valueOfStopAndStemIs1To7(checks);
        valueOfBaseAndNarrowIs0(checks);
        chainHasAtMost6(checks);
        chainIsEmptiedWithAnyValue(checks);
        refusedFiltersDoNothing(checks);
        termsAreThoseOfTokens(checks);
        termsHave1To8Characters(checks);
        stopDropsItsPartAlone(checks);
        droppedStaysDropped(checks);
        baseIsOfTheEntry(checks);
        narrowBeginsAt192(checks);
        stemNeedsMoreThanItsValue(checks);
        stemNeedsClass2AndALast191(checks);
        stemNeverTakesTheLastCharacter(checks);
        filtersGoInTheChainsOrder(checks);
        checks.finish();
    }

    /** "Refused, false, when the kind is none of these": -1 .. 3 */
    private static void kindIsOneOfThese(Checks checks) {
        checks.dueRange("chain with 0 of kind", BASE, NARROW, kind -> new MorphIndex().chain(kind, 0));
        for (int kind : new int[] {-2, 4, 5, -3, Integer.MIN_VALUE, Integer.MAX_VALUE}) {
            for (int v : new int[] {0, 1, 7}) {
                checks.due("chain(" + kind + ", " + v + ")", new MorphIndex().chain(kind, v), false);
            }
        }
        checks.due("chain(-1, 0)", new MorphIndex().chain(-1, 0), true);
        checks.due("chain(0, 1)", new MorphIndex().chain(STOP, 1), true);
        checks.due("chain(3, 1)", new MorphIndex().chain(STEM, 1), true);
    }

    /** "v from 1 to 7 for STOP and STEM" */
    private static void valueOfStopAndStemIs1To7(Checks checks) {
        checks.dueRange("STOP of", 1, 7, v -> new MorphIndex().chain(STOP, v));
        checks.dueRange("STEM of", 1, 7, v -> new MorphIndex().chain(STEM, v));
    }

    /** "0 for BASE and NARROW" */
    private static void valueOfBaseAndNarrowIs0(Checks checks) {
        for (int kind : new int[] {BASE, NARROW}) {
            checks.due("chain(" + kind + ", 0)", new MorphIndex().chain(kind, 0), true);
            for (int v : new int[] {-1, 1, 7, 8, Integer.MIN_VALUE, Integer.MAX_VALUE}) {
                checks.due("chain(" + kind + ", " + v + ")", new MorphIndex().chain(kind, v), false);
            }
        }
    }

    /** "The CHAIN is a list of at most 6 FILTERS.", "or 6 filters are there" */
    private static void chainHasAtMost6(Checks checks) {
        int[][] filters = {{STOP, 1}, {BASE, 0}, {NARROW, 0}, {STEM, 1}};
        for (int[] last : filters) {
            MorphIndex x = new MorphIndex();
            for (int i = 0; i < 5; i++) {
                checks.due("filter " + i, x.chain(STOP, 7), true);
            }
            checks.due("the sixth", x.chain(last[0], last[1]), true);
            for (int[] filter : filters) {
                checks.due("the seventh", x.chain(filter[0], filter[1]), false);
            }
        }
        MorphIndex x = Checks.drafted(65);
        for (int i = 0; i < 6; i++) {
            x.chain(STOP, 7);
        }
        checks.due("a seventh that would drop", x.chain(STOP, 1), false);
        checks.due("it does not", x.term(0), 65);
        x.chain(-1, 0);
        for (int i = 0; i < 5; i++) {
            x.chain(STOP, 7);
        }
        checks.due("a sixth that drops", x.chain(STOP, 1), true);
        checks.due("it does", x.term(0), 0);
    }

    /** "with kind -1 (and any v) the chain becomes empty: true": empty or full, and it has room for 6 again. */
    private static void chainIsEmptiedWithAnyValue(Checks checks) {
        for (int v : new int[] {-1, 0, 1, 7, 8, 99, Integer.MIN_VALUE, Integer.MAX_VALUE}) {
            MorphIndex x = Checks.drafted(65);
            checks.due("chain(-1, " + v + ") of the empty chain", x.chain(-1, v), true);
            for (int i = 0; i < 6; i++) {
                checks.due("filter " + i, x.chain(STOP, 1), true);
            }
            checks.due("term dropped", x.term(0), 0);
            checks.due("chain(-1, " + v + ") of the full chain", x.chain(-1, v), true);
            checks.due("term not dropped", x.term(0), 65);
            for (int i = 0; i < 6; i++) {
                checks.due("filter " + i + " again", x.chain(STOP, 7), true);
            }
            checks.due("the seventh again", x.chain(STOP, 7), false);
        }
    }

    /** "A call that is refused changes nothing.": no filter is put, none is lost. */
    private static void refusedFiltersDoNothing(Checks checks) {
        MorphIndex x = new MorphIndex();
        Checks.enter(x, 1, 0, 66);
        Checks.draft(x, 200, 191);
        x.word(1, 0, 0, 0);
        int[][] wrong = {{STOP, 0}, {STOP, 8}, {BASE, 1}, {BASE, -1}, {NARROW, 1}, {NARROW, -1}, {STEM, 0},
            {STEM, 8}, {4, 0}, {4, 1}, {-2, 0}, {-2, 1}};
        for (int[] w : wrong) {
            checks.due("chain(" + w[0] + ", " + w[1] + ")", x.chain(w[0], w[1]), false);
            checks.due("term after it", x.term(0), Checks.text(200, 191));
        }
        for (int i = 0; i < 5; i++) {
            x.chain(STOP, 7);
        }
        x.chain(NARROW, 0);
        for (int[] w : wrong) {
            checks.due("chain(" + w[0] + ", " + w[1] + ") when full", x.chain(w[0], w[1]), false);
            checks.due("term after it when full", x.term(0), Checks.text(136, 191));
        }
    }

    /** "0 when it is dropped or there is no token i" */
    private static void termsAreThoseOfTokens(Checks checks) {
        for (int size : new int[] {0, 1, 2, 23, 24}) {
            MorphIndex x = Checks.drafted(Checks.repeated(65, size));
            checks.due("first term of " + size, x.term(0), size == 0 ? 0 : 65);
            checks.due("last term of " + size, x.term(size - 1), size == 0 ? 0 : 65);
            for (int i : new int[] {-1, size, size + 1, 24, 25, Integer.MIN_VALUE, Integer.MAX_VALUE}) {
                checks.due("term(" + i + ") of " + size, x.term(i), 0);
            }
        }
        MorphIndex x = Checks.drafted(Checks.repeated(65, 24));
        checks.due("term(23) of 24", x.term(23), 65);
        Checks.draft(x, 66);
        checks.due("term(1) of a shorter draft", x.term(1), 0);
        checks.due("term(23) of a shorter draft", x.term(23), 0);
    }

    /** "its characters .. the first one in the lowest byte, zero bytes above the last one" */
    private static void termsHave1To8Characters(Checks checks) {
        int[] characters = {255, 1, 128, 127, 200, 64, 63, 255};
        for (int size = 1; size <= 8; size++) {
            int[] surface = java.util.Arrays.copyOf(characters, size);
            MorphIndex x = new MorphIndex();
            Checks.enter(x, 1, 0, surface);
            checks.due("tokens of a term of " + size, x.tokens(), 1);
            checks.due("term of " + size, x.term(0), Checks.text(surface));
        }
        MorphIndex x = new MorphIndex();
        x.rule(3, 2, 1, 0);
        Checks.draft(x, Checks.repeated(255, 8));
        checks.due("term of eight of 255", x.term(0), -1);
    }

    /** "STOP v: drops it if its part is v." */
    private static void stopDropsItsPartAlone(Checks checks) {
        for (int v = 1; v <= 7; v++) {
            MorphIndex x = new MorphIndex();
            for (int part = 1; part <= 7; part++) {
                Checks.enter(x, part, 0, 64 + part);
            }
            x.chain(STOP, v);
            Checks.draft(x, 65, 66, 67, 68, 69, 70, 71);
            for (int part = 1; part <= 7; part++) {
                checks.due("part " + part + " with STOP " + v, x.term(part - 1), part == v ? 0 : 64 + part);
            }
            checks.due("dropped ones are tokens", x.tokens(), 7);
            Checks.draft(x, 1);
            checks.due("an unknown one, of part 1, with STOP " + v, x.term(0), v == 1 ? 0 : 1);
        }
    }

    /** "a dropped one has no term, whatever filters follow" */
    private static void droppedStaysDropped(Checks checks) {
        int[][] filters = {{STOP, 1}, {STOP, 2}, {BASE, 0}, {NARROW, 0}, {STEM, 1}};
        for (int[] filter : filters) {
            MorphIndex x = new MorphIndex();
            Checks.enter(x, 1, 0, 66, 67);
            Checks.draft(x, 200, 255);
            x.word(2, 0, 0, 0);
            x.chain(STOP, 2);
            checks.due("dropped", x.term(0), 0);
            x.chain(filter[0], filter[1]);
            checks.due("dropped before kind " + filter[0], x.term(0), 0);
            x.chain(-1, 0);
            x.chain(filter[0], filter[1]);
            x.chain(STOP, 2);
            checks.due("dropped behind kind " + filter[0], x.term(0), 0);
        }
    }

    /** "BASE: if it is of an entry that has a base, the term becomes the surface of that base." */
    private static void baseIsOfTheEntry(Checks checks) {
        for (int size = 1; size <= 8; size++) {
            int[] surface = Checks.repeated(255, size);
            MorphIndex x = new MorphIndex();
            Checks.enter(x, 1, 0, surface);
            Checks.draft(x, 66);
            x.word(1, 0, 0, 0);
            Checks.draft(x, 67);
            x.word(1, 0, 0, 1);
            x.chain(BASE, 0);
            Checks.draft(x, 66, 67, 68);
            checks.due("a base of " + size, x.term(0), Checks.text(surface));
            checks.due("the base of a base is not asked", x.term(1), 66);
            checks.due("unknown: no base", x.term(2), 68);
            Checks.draft(x, surface);
            checks.due("an entry without base", x.term(0), Checks.text(surface));
        }
    }

    /** "each character from 192 on becomes the one 64 lower", in each of the eight places of a term. */
    private static void narrowBeginsAt192(Checks checks) {
        int[][] edges = {{191, 191}, {192, 128}, {193, 129}, {254, 190}, {255, 191}, {128, 128}, {127, 127},
            {64, 64}, {63, 63}, {1, 1}};
        for (int[] edge : edges) {
            for (int place = 0; place < 8; place++) {
                int[] surface = Checks.repeated(65, 8);
                int[] narrow = Checks.repeated(65, 8);
                surface[place] = edge[0];
                narrow[place] = edge[1];
                MorphIndex x = new MorphIndex();
                Checks.enter(x, 1, 0, surface);
                x.chain(NARROW, 0);
                checks.due(edge[0] + " at " + place + " narrowed", x.term(0), Checks.text(narrow));
                x.chain(NARROW, 0);
                checks.due(edge[0] + " at " + place + " narrowed twice", x.term(0), Checks.text(narrow));
            }
        }
        MorphIndex x = new MorphIndex();
        Checks.enter(x, 1, 0, Checks.repeated(255, 8));
        x.chain(NARROW, 0);
        checks.due("eight narrowed", x.term(0), Checks.text(Checks.repeated(191, 8)));
    }

    /** "a term of more than v characters .. loses the last one" */
    private static void stemNeedsMoreThanItsValue(Checks checks) {
        for (int v = 1; v <= 7; v++) {
            for (int size = 1; size <= 8; size++) {
                MorphIndex x = new MorphIndex();
                Checks.enter(x, 1, 0, Checks.repeated(191, size));
                x.chain(STEM, v);
                int left = size > v ? size - 1 : size;
                checks.due("STEM " + v + " of " + size, x.term(0), Checks.text(Checks.repeated(191, left)));
                x.chain(STEM, v);
                int twice = left > v ? left - 1 : left;
                checks.due("STEM " + v + " twice of " + size, x.term(0), Checks.text(Checks.repeated(191, twice)));
            }
        }
    }

    /** "all of class 2, the last of them 191" */
    private static void stemNeedsClass2AndALast191(Checks checks) {
        for (int size = 2; size <= 8; size++) {
            for (int place = 0; place < size - 1; place++) {
                for (int c : new int[] {63, 64, 127, 128, 191, 192, 255}) {
                    int[] surface = Checks.repeated(150, size);
                    surface[size - 1] = 191;
                    surface[place] = c;
                    boolean stems = c >= 128 && c <= 191;
                    dueStem(checks, surface, stems);
                }
            }
            for (int c : new int[] {190, 192, 128, 127, 255, 63}) {
                int[] surface = Checks.repeated(150, size);
                surface[size - 1] = c;
                dueStem(checks, surface, false);
            }
            int[] inside = Checks.repeated(191, size);
            inside[size - 1] = 190;
            dueStem(checks, inside, false);
        }
    }

    private static void dueStem(Checks checks, int[] surface, boolean stems) {
        MorphIndex x = new MorphIndex();
        Checks.enter(x, 1, 0, surface);
        x.chain(STEM, 1);
        int[] due = stems ? java.util.Arrays.copyOf(surface, surface.length - 1) : surface;
        checks.due("stem of " + java.util.Arrays.toString(surface), x.term(0), Checks.text(due));
    }

    /** As v is at least 1, six filters leave one character at the least. */
    private static void stemNeverTakesTheLastCharacter(Checks checks) {
        MorphIndex x = new MorphIndex();
        Checks.enter(x, 1, 0, Checks.repeated(191, 5));
        int[] left = {4, 3, 2, 1, 1, 1};
        for (int i = 0; i < 6; i++) {
            checks.due("STEM 1 once more", x.chain(STEM, 1), true);
            checks.due("term then", x.term(0), Checks.text(Checks.repeated(191, left[i])));
        }
    }

    /** "then the filters, in the chain's order, change or drop it" */
    private static void filtersGoInTheChainsOrder(Checks checks) {
        MorphIndex x = Checks.drafted(200, 255);
        x.word(1, 0, 0, -1);
        x.chain(STEM, 1);
        x.chain(NARROW, 0);
        checks.due("STEM, NARROW", x.term(0), Checks.text(136, 191));
        x.chain(-1, 0);
        x.chain(NARROW, 0);
        x.chain(STEM, 1);
        checks.due("NARROW, STEM", x.term(0), 136);
        Checks.draft(x, 66);
        x.word(2, 0, 0, 0);
        checks.due("NARROW, STEM of one with a base", x.term(0), 66);
        x.chain(BASE, 0);
        checks.due("NARROW, STEM, BASE", x.term(0), Checks.text(200, 255));
        x.chain(NARROW, 0);
        checks.due("NARROW, STEM, BASE, NARROW", x.term(0), Checks.text(136, 191));
        x.chain(STEM, 1);
        checks.due("NARROW, STEM, BASE, NARROW, STEM", x.term(0), 136);
        x.chain(STOP, 2);
        checks.due("STOP as the sixth", x.term(0), 0);
    }
}
