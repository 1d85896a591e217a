/** Promises 11 and 12: tokens and token, with the best path among equals, cuts and compounds. */
public final class TokenTest {
    public static void main(String[] args) {
        Checks checks = new Checks();
        refusesWrongNumbers(checks);
        takesTheLongerFromTheEnd(checks);
        takesKnownBeforeUnknown(checks);
        takesTheLowerEntry(checks);
        cutsEntries(checks);
        findsCompounds(checks);
        findsNoCompoundAcrossTokens(checks);
        findsNoCompoundOfAnEarlierDraft(checks);
        findsNoCompoundWithCuts(checks);
        findsCompoundsOverCuts(checks);
        comesAnewAfterChanges(checks);
        checks.finish();
    }

    private static void enter(MorphIndex x, int part, int cost, int cuts, int... surface) {
        Checks.draft(x, surface);
        x.word(part, cost, cuts, -1);
    }

    private static void refusesWrongNumbers(Checks checks) {
        MorphIndex x = new MorphIndex();
        Checks.draft(x, 65, 1);
        int[] tokens = {-1, 2, 24, 100, Integer.MIN_VALUE, Integer.MAX_VALUE};
        for (int i : tokens) {
            for (int what = 0; what < 5; what++) {
                checks.due("token(" + i + ", " + what + ")", x.token(i, what), -1);
            }
        }
        int[] whats = {-1, 5, 100, Integer.MIN_VALUE, Integer.MAX_VALUE};
        for (int what : whats) {
            checks.due("token(0, " + what + ")", x.token(0, what), -1);
        }
        checks.dueToken("of the draft", x, 1, 1, 1, 1, 100, 0);
    }

    private static void takesTheLongerFromTheEnd(Checks checks) {
        MorphIndex x = new MorphIndex();
        enter(x, 1, 0, 0, 65);
        enter(x, 1, 0, 0, 65, 65);
        Checks.draft(x, 65, 65, 65);
        checks.due("tokens of equal paths", x.tokens(), 2);
        checks.dueToken("of the draft", x, 0, 0, 1, 1, 0, 0);
        checks.dueToken("of the draft", x, 1, 1, 2, 1, 1, 0);
        enter(x, 1, 0, 0, 65, 65, 65);
        checks.due("the longest last node", x.tokens(), 1);
        x.rule(1, 17, 1, 0);
        Checks.draft(x, 65, 65, 65, 65, 65);
        checks.dueToken("of the draft", x, 1, 1, 4, 1, 101, 0);
    }

    private static void takesKnownBeforeUnknown(Checks checks) {
        MorphIndex x = new MorphIndex();
        x.rule(1, 9, 3, 0);
        enter(x, 4, 0, 0, 65, 66);
        checks.dueToken("of the draft", x, 0, 0, 2, 4, 0, 0);
        checks.due("both are paths, and the two singles", x.paths(), 3);
        Checks.draft(x, 65, 66, 9);
        checks.dueToken("of the draft", x, 0, 0, 2, 4, 0, 0);
        checks.dueToken("of the draft", x, 1, 2, 1, 1, 100, 0);
        x.link(4, 1, 1);
        checks.dueToken("of the draft", x, 0, 0, 2, 3, 101, 0);
    }

    private static void takesTheLowerEntry(Checks checks) {
        MorphIndex x = new MorphIndex();
        enter(x, 5, 1, 0, 65);
        enter(x, 6, 0, 0, 65);
        enter(x, 7, 0, 0, 65);
        checks.dueToken("of the draft", x, 0, 0, 1, 6, 1, 0);
        Checks.draft(x, 65, 65);
        checks.dueToken("of the draft", x, 0, 0, 1, 6, 1, 0);
        checks.dueToken("of the draft", x, 1, 1, 1, 6, 1, 0);
        x.link(6, 6, 3);
        checks.due("least of the others", x.cost(), 0);
        checks.dueToken("of the draft", x, 0, 0, 1, 7, 2, 0);
        checks.dueToken("of the draft", x, 1, 1, 1, 6, 1, 0);
    }

    private static void cutsEntries(Checks checks) {
        MorphIndex x = new MorphIndex();
        enter(x, 3, 0, 2 + 16, 1, 65, 129, 193, 2, 66);
        Checks.draft(x, 9, 1, 65, 129, 193, 2, 66, 9);
        checks.due("tokens with cuts", x.tokens(), 5);
        checks.dueToken("of the draft", x, 0, 0, 1, 1, 100, 0);
        checks.dueToken("of the draft", x, 1, 1, 1, 3, 0, 0);
        checks.dueToken("of the draft", x, 2, 2, 3, 3, 0, 0);
        checks.dueToken("of the draft", x, 3, 5, 2, 3, 0, 0);
        checks.dueToken("of the draft", x, 4, 7, 1, 1, 100, 0);
    }

    /** Without charges "ABC" is one word; with them "AB" and "C" are cheaper. */
    private static MorphIndex withLongWord() {
        MorphIndex x = new MorphIndex();
        enter(x, 1, 10, 0, 65, 66);
        enter(x, 2, 10, 0, 67);
        enter(x, 3, 15, 0, 65, 66, 67);
        return x;
    }

    private static void findsCompounds(Checks checks) {
        MorphIndex x = withLongWord();
        Checks.draft(x, 67, 65, 66, 67);
        checks.due("tokens without charges", x.tokens(), 2);
        checks.dueToken("of the draft", x, 1, 1, 3, 3, 2, 0);
        x.mode(6, 0);
        checks.due("tokens with charges", x.tokens(), 3);
        checks.dueToken("of the draft", x, 0, 0, 1, 2, 1, 0);
        checks.dueToken("of the draft", x, 1, 1, 2, 1, 0, 3);
        checks.dueToken("of the draft", x, 2, 3, 1, 2, 1, 0);
        x.mode(5, 0);
        checks.due("equal costs: the longer", x.tokens(), 2);
        x.mode(0, 0);
        x.rule(2, 6, 1, 10);
        Checks.draft(x, Checks.repeated(130, 6));
        checks.due("an unknown run", x.tokens(), 1);
        x.mode(0, 30);
        checks.due("an unknown run in singles", x.tokens(), 3);
        checks.dueToken("of the draft", x, 0, 0, 1, 1, 102, 6);
        checks.dueToken("of the draft", x, 1, 1, 1, 1, 102, 0);
    }

    private static void findsNoCompoundAcrossTokens(Checks checks) {
        MorphIndex x = new MorphIndex();
        enter(x, 1, 0, 0, 65, 66, 67);
        enter(x, 1, 0, 0, 68);
        enter(x, 1, 5, 0, 65);
        enter(x, 1, 5, 0, 66);
        enter(x, 1, 5, 0, 67, 68);
        Checks.draft(x, 65, 66, 67, 68);
        checks.due("the plain path", x.tokens(), 2);
        x.mode(100, 0);
        checks.due("the best path", x.tokens(), 3);
        checks.dueToken("of the draft", x, 0, 0, 1, 1, 2, 0);
        checks.dueToken("of the draft", x, 2, 2, 2, 1, 4, 0);
        Checks.draft(x, 68, 65, 66, 67);
        checks.due("it ends where the unknown token ends", x.token(1, 4), 3);
    }

    /** The third token of the first draft ends where, in the second one, the plain path's word ends. */
    private static void findsNoCompoundOfAnEarlierDraft(Checks checks) {
        MorphIndex x = new MorphIndex();
        Checks.draft(x, 65, 66, 67);
        checks.due("tokens of the first draft", x.tokens(), 3);
        x.word(1, 0, 0, -1);
        enter(x, 1, 5, 0, 65, 66);
        enter(x, 1, 5, 0, 67, 68);
        x.mode(100, 0);
        enter(x, 1, 0, 0, 68);
        Checks.draft(x, 65, 66, 67);
        x.rule(1, 5, 1, 1);
        checks.due("tokens of the first draft, charged", x.tokens(), 3);
        x.rule(1, 0, 1, 1);
        Checks.draft(x, 65, 66, 67, 68);
        checks.due("tokens of the second draft", x.tokens(), 2);
        checks.dueToken("of the draft", x, 0, 0, 2, 1, 1, 0);
        checks.dueToken("of the draft", x, 1, 2, 2, 1, 2, 0);
    }

    private static void findsNoCompoundWithCuts(Checks checks) {
        MorphIndex x = new MorphIndex();
        enter(x, 1, 0, 2, 65, 66);
        checks.due("pieces", x.tokens(), 2);
        checks.dueToken("of the draft", x, 0, 0, 1, 1, 0, 0);
        enter(x, 2, -1, 0, 65, 66);
        checks.due("the cheaper without cuts", x.tokens(), 1);
        checks.dueToken("of the draft", x, 0, 0, 2, 2, 1, 0);
    }

    private static void findsCompoundsOverCuts(Checks checks) {
        MorphIndex x = new MorphIndex();
        enter(x, 1, 1, 4, 65, 66, 67);
        enter(x, 2, 0, 0, 65, 66, 67);
        checks.due("one token", x.tokens(), 1);
        x.mode(2, 0);
        checks.due("pieces of the one with cuts", x.tokens(), 2);
        checks.dueToken("of the draft", x, 0, 0, 2, 1, 0, 3);
        checks.dueToken("of the draft", x, 1, 2, 1, 1, 0, 0);
    }

    private static void comesAnewAfterChanges(Checks checks) {
        MorphIndex x = new MorphIndex();
        Checks.draft(x, 65, 66, 67);
        checks.due("at first", x.tokens(), 3);
        x.rule(1, 2, 1, 9);
        checks.due("after rule", x.tokens(), 1);
        Checks.draft(x, 66, 67);
        checks.due("after type", x.cost(), 9);
        x.word(2, 3, 0, -1);
        checks.due("after word", x.cost(), 3);
        x.link(0, 2, 4);
        checks.due("after link", x.cost(), 7);
        x.type(68);
        x.mode(1, 1);
        checks.due("after mode", x.cost(), 3 + 4 + 9);
        x.type(0);
        checks.due("after type(0)", x.tokens(), 0);
    }
}
