/** Promise 3: word. */
public final class WordTest {
    public static void main(String[] args) {
        Checks checks = new Checks();
        makesEntries(checks);
        refusesWrongDrafts(checks);
        refusesWrongNumbers(checks);
        refusesWrongCuts(checks);
        refusesWrongBases(checks);
        refusesTooManyOfOneSurface(checks);
        refusesTheFortyFirst(checks);
        checks.finish();
    }

    private static void makesEntries(Checks checks) {
        MorphIndex x = new MorphIndex();
        Checks.draft(x, 65, 130);
        checks.due("first word", x.word(7, -10000, 0, -1), 0);
        checks.due("second word, its base the first", x.word(1, 10000, 0, 0), 1);
        checks.due("the draft stays", x.nodes(), 3);
        checks.due("cost of the first", x.cost(), -10000);
        checks.due("part of the first", x.token(0, 2), 7);
        checks.due("length of the first", x.token(0, 1), 2);
        checks.due("number of the first", x.token(0, 3), 0);
        Checks.draft(x, 1, 2, 3, 4, 5, 6, 7, 8);
        checks.due("word of 8 with every cut", x.word(2, -5, 254, -1), 2);
        checks.due("tokens of it", x.tokens(), 8);
        checks.due("cost of it", x.cost(), -5);
    }

    private static void refusesWrongDrafts(Checks checks) {
        MorphIndex x = new MorphIndex();
        checks.due("word of the empty draft", x.word(1, 0, 0, -1), -1);
        Checks.draft(x, Checks.repeated(65, 9));
        checks.due("word of 9", x.word(1, 0, 0, -1), -1);
        Checks.draft(x, Checks.repeated(65, 24));
        checks.due("word of 24", x.word(1, 0, 0, -1), -1);
        Checks.draft(x, Checks.repeated(65, 8));
        checks.due("word of 8", x.word(1, 0, 0, -1), 0);
    }

    private static void refusesWrongNumbers(Checks checks) {
        MorphIndex x = new MorphIndex();
        x.type(65);
        int[] parts = {0, -1, 8, Integer.MIN_VALUE, Integer.MAX_VALUE};
        for (int part : parts) {
            checks.due("word of part " + part, x.word(part, 0, 0, -1), -1);
        }
        int[] costs = {-10001, 10001, Integer.MIN_VALUE, Integer.MAX_VALUE};
        for (int cost : costs) {
            checks.due("word of cost " + cost, x.word(1, cost, 0, -1), -1);
        }
        checks.due("refused words are none", x.token(0, 3), 101);
        checks.due("the first number is free", x.word(1, 0, 0, -1), 0);
    }

    private static void refusesWrongCuts(Checks checks) {
        MorphIndex x = new MorphIndex();
        x.type(65);
        int[] ofOne = {1, 2, -1, Integer.MIN_VALUE};
        for (int cuts : ofOne) {
            checks.due("word of 1 with cuts " + cuts, x.word(1, 0, cuts, -1), -1);
        }
        Checks.draft(x, 65, 66, 67);
        int[] ofThree = {1, 8, 3, 7, 14, 256, 1 << 30, -2, Integer.MIN_VALUE};
        for (int cuts : ofThree) {
            checks.due("word of 3 with cuts " + cuts, x.word(1, 0, cuts, -1), -1);
        }
        checks.due("word of 3 with cuts 6", x.word(1, 0, 6, -1), 0);
        Checks.draft(x, Checks.repeated(67, 8));
        checks.due("word of 8 with cut 8", x.word(1, 0, 256, -1), -1);
        checks.due("word of 8 with cut 7", x.word(1, 0, 128, -1), 1);
    }

    private static void refusesWrongBases(Checks checks) {
        MorphIndex x = new MorphIndex();
        Checks.draft(x, 65, 66);
        checks.due("word with itself as base", x.word(1, 0, 0, 0), -1);
        checks.due("word without base", x.word(1, 0, 0, -1), 0);
        int[] bases = {1, 2, 40, -2, Integer.MIN_VALUE, Integer.MAX_VALUE};
        for (int base : bases) {
            checks.due("word with base " + base, x.word(1, 0, 0, base), -1);
        }
        checks.due("word with base and cuts", x.word(1, 0, 2, 0), -1);
        checks.due("word with cuts", x.word(1, 0, 2, -1), 1);
        checks.due("word with a base that has cuts", x.word(1, 0, 0, 1), 2);
    }

    private static void refusesTooManyOfOneSurface(Checks checks) {
        MorphIndex x = new MorphIndex();
        Checks.draft(x, 65, 66);
        for (int i = 0; i < 3; i++) {
            checks.due("word " + i + " of one surface", x.word(1, 0, 0, -1), i);
        }
        checks.due("the fourth", x.word(2, 0, 0, -1), -1);
        checks.due("nodes of three", x.nodes(), 4);
        x.type(67);
        checks.due("another surface", x.word(2, 0, 0, -1), 3);
        Checks.draft(x, 65);
        checks.due("a beginning of the surface", x.word(2, 0, 0, -1), 4);
    }

    private static void refusesTheFortyFirst(Checks checks) {
        MorphIndex x = new MorphIndex();
        for (int i = 0; i < 40; i++) {
            Checks.draft(x, 100 + i);
            checks.due("word " + i, x.word(1, 5, 0, -1), i);
        }
        Checks.draft(x, 99);
        checks.due("the forty-first", x.word(1, 5, 0, -1), -1);
        checks.due("it is none", x.token(0, 3), 101);
        Checks.draft(x, 139);
        checks.due("the fortieth is one", x.token(0, 3), 39);
    }
}
