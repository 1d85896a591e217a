/** Promises 7 and 13: chain and term. */
public final class TermTest {
    public static void main(String[] args) {
        Checks checks = new Checks();
        refusesWrongFilters(checks);
        refusesTheSeventh(checks);
        refusesWrongTokens(checks);
        stops(checks);
        takesTheBase(checks);
        narrows(checks);
        stems(checks);
        goesInTheChainsOrder(checks);
        checks.finish();
    }

    private static void refusesWrongFilters(Checks checks) {
        MorphIndex x = new MorphIndex();
        int[][] wrong = {{0, 0}, {0, 8}, {0, -1}, {3, 0}, {3, 8}, {3, -1}, {1, 1}, {1, -1}, {2, 1}, {2, -1},
            {4, 0}, {4, 1}, {-2, 0}, {-2, 1}, {Integer.MIN_VALUE, 1}, {Integer.MAX_VALUE, 1},
            {0, Integer.MIN_VALUE}, {3, Integer.MAX_VALUE}};
        for (int[] f : wrong) {
            checks.due("chain(" + f[0] + ", " + f[1] + ")", x.chain(f[0], f[1]), false);
        }
        for (int i = 0; i < 6; i++) {
            checks.due("refused filters take no room", x.chain(1, 0), true);
        }
    }

    private static void refusesTheSeventh(Checks checks) {
        MorphIndex x = new MorphIndex();
        x.type(65);
        for (int i = 2; i < 8; i++) {
            checks.due("chain(0, " + i + ")", x.chain(0, i), true);
        }
        checks.due("the seventh", x.chain(0, 1), false);
        checks.due("term after the seventh", x.term(0), 65);
        checks.due("a wrong one clears nothing", x.chain(-2, 0), false);
        checks.due("chain(-1, any)", x.chain(-1, Integer.MIN_VALUE), true);
        checks.due("chain(-1, any) again", x.chain(-1, 99), true);
        checks.due("the first again", x.chain(0, 1), true);
        checks.due("term", x.term(0), 0);
        checks.due("the second again", x.chain(3, 7), true);
        x.chain(-1, 0);
        checks.due("term of the empty chain", x.term(0), 65);
    }

    private static void refusesWrongTokens(Checks checks) {
        MorphIndex x = new MorphIndex();
        checks.due("term(0) of the empty draft", x.term(0), 0);
        Checks.draft(x, 200, 201);
        int[] wrong = {-1, 2, 24, Integer.MIN_VALUE, Integer.MAX_VALUE};
        for (int i : wrong) {
            checks.due("term(" + i + ")", x.term(i), 0);
        }
        checks.due("term(1)", x.term(1), 201);
    }

    private static void stops(Checks checks) {
        MorphIndex x = new MorphIndex();
        x.type(65);
        x.word(7, 0, 0, -1);
        x.type(1);
        x.chain(0, 7);
        checks.due("term of the stopped part", x.term(0), 0);
        checks.due("term of another part", x.term(1), 1);
        checks.due("the token stays", x.tokens(), 2);
        x.chain(1, 0);
        x.chain(2, 0);
        x.chain(3, 1);
        checks.due("dropped whatever follows", x.term(0), 0);
    }

    private static void takesTheBase(Checks checks) {
        MorphIndex x = new MorphIndex();
        Checks.draft(x, 65, 66, 67);
        x.word(1, 0, 0, -1);
        Checks.draft(x, 68);
        x.word(1, 0, 0, 0);
        Checks.draft(x, 69);
        x.word(1, 0, 0, 1);
        Checks.draft(x, 68, 69, 70, 65, 66, 67);
        x.chain(1, 0);
        checks.due("term of the base", x.term(0), Checks.text(65, 66, 67));
        checks.due("one base deep", x.term(1), 68);
        checks.due("an unknown one has no base", x.term(2), 70);
        checks.due("an entry without base", x.term(3), Checks.text(65, 66, 67));
        x.chain(1, 0);
        checks.due("one base deep, twice", x.term(1), 68);
    }

    private static void narrows(Checks checks) {
        MorphIndex x = new MorphIndex();
        Checks.draft(x, 1, 127, 191, 192, 255, 64, 128, 254);
        x.word(1, -1, 0, -1);
        checks.due("one token", x.tokens(), 1);
        x.chain(2, 0);
        checks.due("narrowed", x.term(0), Checks.text(1, 127, 191, 128, 191, 64, 128, 190));
        x.chain(2, 0);
        checks.due("narrowed twice", x.term(0), Checks.text(1, 127, 191, 128, 191, 64, 128, 190));
    }

    private static void stems(Checks checks) {
        for (int v = 1; v <= 7; v++) {
            for (int size = 1; size <= 8; size++) {
                int[] characters = Checks.repeated(128, size);
                characters[size - 1] = 191;
                MorphIndex x = new MorphIndex();
                x.rule(2, 2, 1, 0);
                Checks.draft(x, characters);
                x.chain(3, v);
                long whole = Checks.text(characters);
                long less = Checks.text(Checks.repeated(128, size - 1));
                checks.due("stem " + v + " of " + size, x.term(0), size > v ? less : whole);
            }
        }
        int[][] whole = {{129, 190}, {65, 191}, {191, 129}, {129, 65, 191}, {193, 129, 191}, {127, 191}, {192, 191}};
        for (int[] characters : whole) {
            MorphIndex x = new MorphIndex();
            Checks.draft(x, characters);
            x.word(1, -1, 0, -1);
            x.chain(3, 1);
            checks.due("stem changes nothing", x.term(0), Checks.text(characters));
        }
    }

    private static void goesInTheChainsOrder(Checks checks) {
        MorphIndex x = new MorphIndex();
        Checks.draft(x, 200, 255, 255);
        x.word(2, 0, 0, -1);
        Checks.draft(x, 65);
        x.word(3, 0, 0, 0);
        x.chain(3, 1);
        x.chain(2, 0);
        x.chain(1, 0);
        checks.due("the base last", x.term(0), Checks.text(200, 255, 255));
        x.chain(-1, 0);
        x.chain(1, 0);
        x.chain(3, 1);
        x.chain(2, 0);
        checks.due("stem before narrow", x.term(0), Checks.text(136, 191, 191));
        x.chain(3, 1);
        checks.due("stem behind narrow", x.term(0), Checks.text(136, 191));
        x.chain(3, 1);
        checks.due("stem twice", x.term(0), 136);
        x.chain(3, 1);
        checks.due("one character stays", x.term(0), 136);
        x.chain(-1, 0);
        x.chain(1, 0);
        x.chain(0, 2);
        checks.due("the part stays its own", x.term(0), Checks.text(200, 255, 255));
        x.chain(0, 3);
        checks.due("stopped by its own part", x.term(0), 0);
    }
}
