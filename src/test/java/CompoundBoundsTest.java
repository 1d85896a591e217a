/** What makes a compound and what does not: promise 12 with what = 4, and what 'Terms' says of compounds. */
public final class CompoundBoundsTest {
    public static void main(String[] args) {
        Checks checks = new Checks();
        holdsTwoOrMoreTokens(checks);
        isAsLongAsANode(checks);
        isOfThePlainPath(checks);
        beginsWithAToken(checks);
        endsWithAToken(checks);
        hasNoCuts(checks);
        goesWithItsFirstToken(checks);
        standsBesideOthers(checks);
        isReadAnewWithTheMode(checks);
        checks.finish();
    }

    /** Han words of 3 and more are one node while HAN is 0, and singles (entries 0 and 1) when it is dear. */
    private static MorphIndex withSingles(int... word) {
        MorphIndex x = new MorphIndex();
        Checks.enter(x, 1, 10, 65);
        Checks.enter(x, 1, 10, 66);
        Checks.enter(x, 2, 5, word);
        return x;
    }

    /** "and holds two or more tokens": one token alone is no compound. */
    private static void holdsTwoOrMoreTokens(Checks checks) {
        MorphIndex one = withSingles(65, 65, 66);
        checks.due("one token", one.tokens(), 1);
        checks.due("one token is no compound", one.token(0, 4), 0);
        one.mode(1, 1);
        checks.due("one token of the best path too", one.tokens(), 1);
        checks.due("one charged token is no compound", one.token(0, 4), 0);
        MorphIndex two = withSingles(65, 65, 66);
        Checks.enter(two, 3, 15, 65, 66);
        Checks.draft(two, 65, 65, 66);
        two.mode(10000, 0);
        checks.dueLengths("two tokens", two, 1, 2);
        checks.due("two tokens are a compound", two.token(0, 4), 3);
        MorphIndex three = withSingles(65, 65, 66);
        three.mode(10000, 0);
        checks.dueLengths("three tokens", three, 1, 1, 1);
        checks.due("three tokens are a compound", three.token(0, 4), 3);
    }

    /** Compounds of all lengths that are charged, and of 8 tokens. */
    private static void isAsLongAsANode(Checks checks) {
        for (int length = 2; length <= 8; length++) {
            MorphIndex x = withSingles(Checks.repeated(65, length));
            x.mode(10000, 0);
            checks.due("tokens of " + length, x.tokens(), length == 2 ? 1 : length);
            checks.due("compound of " + length, x.token(0, 4), length == 2 ? 0 : length);
        }
    }

    /** "The PLAIN path is what the best path would be if HAN and OTHER were 0." */
    private static void isOfThePlainPath(Checks checks) {
        MorphIndex x = withSingles(65, 65, 66);
        x.mode(10000, 0);
        checks.due("in the plain path", x.token(0, 4), 3);
        x.link(0, 2, 25);
        checks.due("in the plain path, as it is longer", x.token(0, 4), 3);
        x.link(0, 2, 26);
        checks.due("in the plain path no more", x.token(0, 4), 0);
        MorphIndex unknown = new MorphIndex();
        unknown.rule(2, 6, 1, 10);
        Checks.draft(unknown, Checks.repeated(130, 5));
        unknown.mode(0, 10);
        checks.dueLengths("an unknown node as dear as two", unknown, 5);
        unknown.mode(0, 11);
        checks.dueLengths("an unknown node dearer than two", unknown, 1, 4);
        checks.due("an unknown compound", unknown.token(0, 4), 5);
    }

    /** "that begins where a token begins" */
    private static void beginsWithAToken(Checks checks) {
        MorphIndex x = new MorphIndex();
        Checks.enter(x, 1, 0, 65);
        Checks.enter(x, 1, 0, 66, 66, 66);
        Checks.enter(x, 1, 0, 65, 66);
        Checks.enter(x, 1, 1, 66);
        Checks.draft(x, 65, 66, 66, 66);
        checks.dueLengths("the plain path", x, 1, 3);
        x.mode(10000, 0);
        checks.dueLengths("the best path", x, 2, 1, 1);
        for (int i = 0; i < 3; i++) {
            checks.due("no compound at " + i, x.token(i, 4), 0);
        }
    }

    /** "ends where a token ends" */
    private static void endsWithAToken(Checks checks) {
        MorphIndex x = new MorphIndex();
        Checks.enter(x, 1, 0, 66);
        Checks.enter(x, 1, 0, 65, 65, 65);
        Checks.enter(x, 1, 0, 65, 66);
        Checks.enter(x, 1, 1, 65);
        Checks.draft(x, 65, 65, 65, 66);
        checks.dueLengths("the plain path", x, 3, 1);
        x.mode(10000, 0);
        checks.dueLengths("the best path", x, 1, 1, 2);
        for (int i = 0; i < 3; i++) {
            checks.due("no compound at " + i, x.token(i, 4), 0);
        }
    }

    /** "of no entry that has cuts": its pieces are tokens, but it is no compound. */
    private static void hasNoCuts(Checks checks) {
        MorphIndex x = Checks.drafted(65, 65, 66);
        x.word(2, 0, 2, -1);
        checks.dueLengths("pieces", x, 1, 2);
        checks.due("no compound of one with cuts", x.token(0, 4), 0);
        x.mode(10000, 10000);
        checks.due("no compound of one with cuts in any mode", x.token(0, 4), 0);
        x.word(3, -1, 0, -1);
        checks.dueLengths("pieces of the one with cuts", x, 1, 2);
        checks.due("a compound of one without cuts", x.token(0, 4), 3);
    }

    /** "It goes with the token with which it begins." */
    private static void goesWithItsFirstToken(Checks checks) {
        MorphIndex x = withSingles(65, 66, 66);
        x.mode(10000, 0);
        Checks.draft(x, 66, 65, 66, 66, 65);
        int[] due = {0, 3, 0, 0, 0};
        for (int i = 0; i < due.length; i++) {
            checks.due("compound at token " + i, x.token(i, 4), due[i]);
        }
    }

    /** Compounds side by side up to the end of a full draft. */
    private static void standsBesideOthers(Checks checks) {
        MorphIndex x = withSingles(65, 66, 66);
        x.mode(10000, 0);
        Checks.draft(x, 65, 66, 66, 65, 66, 66, 65, 66, 66, 65, 66, 66, 65, 66, 66, 65, 66, 66, 65, 66, 66, 65, 66, 66);
        checks.due("tokens of 24", x.tokens(), 24);
        for (int i = 0; i < 24; i++) {
            checks.due("compound at token " + i, x.token(i, 4), i % 3 == 0 ? 3 : 0);
        }
    }

    /** A compound of an earlier mode or draft is none of the next one. */
    private static void isReadAnewWithTheMode(Checks checks) {
        MorphIndex x = withSingles(65, 66, 66);
        x.mode(10000, 0);
        checks.due("charged", x.token(0, 4), 3);
        x.mode(0, 0);
        checks.due("not charged", x.token(0, 4), 0);
        x.mode(10000, 0);
        checks.due("charged again", x.token(0, 4), 3);
        Checks.draft(x, 65, 66, 65);
        checks.due("another draft", x.token(0, 4), 0);
    }
}
