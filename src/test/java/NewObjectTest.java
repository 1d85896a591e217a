/** Promise 1: a new object. */
public final class NewObjectTest {
    public static void main(String[] args) {
        Checks checks = new Checks();
        startsEmpty(checks);
        startsWithPlainRulesAndLinks(checks);
        invokesNothing(checks);
        hasRoomForAll(checks);
        objectsAreApart(checks);
        checks.finish();
    }

    private static void startsEmpty(Checks checks) {
        MorphIndex x = new MorphIndex();
        checks.due("NONE", MorphIndex.NONE, -1);
        checks.due("new cost()", x.cost(), 0);
        checks.due("new paths()", x.paths(), 1);
        checks.due("new nodes()", x.nodes(), 0);
        checks.due("new tokens()", x.tokens(), 0);
        checks.due("new token(0, 0)", x.token(0, 0), -1);
        checks.due("new term(0)", x.term(0), 0);
        checks.due("new add()", x.add(), -1);
        checks.due("new word()", x.word(1, 0, 0, -1), -1);
        checks.due("new drop(0)", x.drop(0), false);
        checks.due("new flush()", x.flush(), -1);
        checks.due("new segment(-1)", x.segment(-1), 0);
        checks.due("new segment(0)", x.segment(0), -1);
        checks.due("new match(0)", x.match(0), -1);
        checks.due("new places(0)", x.places(0), 0);
        checks.due("new open()", x.open(), 0);
    }

    private static void startsWithPlainRulesAndLinks(Checks checks) {
        int[] starts = {1, 64, 128, 192};
        for (int k = 0; k < starts.length; k++) {
            MorphIndex x = new MorphIndex();
            Checks.draft(x, Checks.repeated(starts[k], 9));
            checks.due("new nodes() of class " + k, x.nodes(), 9);
            checks.due("new cost() of class " + k, x.cost(), 0);
            checks.due("new part of class " + k, x.token(8, 2), 1);
            checks.due("new length of class " + k, x.token(8, 1), 1);
            checks.due("new term of class " + k, x.term(8), starts[k]);
        }
        linksAreZero(checks);
        modeIsZero(checks);
        snapshotIsEmpty(checks);
    }

    /** "at first no, no, 0": where a known node stands no class puts an unknown one. */
    private static void invokesNothing(Checks checks) {
        int[] starts = {1, 64, 128, 192};
        for (int k = 0; k < starts.length; k++) {
            MorphIndex x = new MorphIndex();
            Checks.enter(x, 2, 9, starts[k], starts[k]);
            checks.due("new nodes() at a known one of class " + k, x.nodes(), 1 + 1);
            checks.due("new cost() of a known one of class " + k, x.cost(), 9);
        }
    }

    /** "no entries", "an empty chain", "no documents, no segments": all of the room is free. */
    private static void hasRoomForAll(Checks checks) {
        MorphIndex x = new MorphIndex();
        checks.due("the first three types", x.type(-1) && x.type(-1) && x.type(-1), true);
        checks.due("the fourth type", x.type(1), false);
        for (int i = 0; i < 6; i++) {
            checks.due("filter " + i, x.chain(1, 0), true);
        }
        for (int i = 0; i < 40; i++) {
            checks.due("entry " + i, Checks.enter(x, 1, 0, 1 + i), i);
        }
        for (int doc = 0; doc < 4; doc++) {
            checks.due("document " + doc, x.add(), doc);
        }
        checks.due("segments before the first flush()", x.segment(-1), 0);
        checks.due("the first flush()", x.flush(), 4);
        checks.due("segments after it", x.segment(-1), 1);
    }

    private static void modeIsZero(Checks checks) {
        int[] starts = {1, 64, 128, 192};
        for (int k = 0; k < starts.length; k++) {
            MorphIndex x = new MorphIndex();
            x.rule(k, 2, 1, 3);
            Checks.draft(x, Checks.repeated(starts[k], 8));
            checks.due("new charge of class " + k, x.cost(), 3);
        }
    }

    private static void snapshotIsEmpty(Checks checks) {
        MorphIndex x = new MorphIndex();
        x.type(65);
        x.add();
        x.flush();
        checks.due("match(0) of the new snapshot", x.match(0), -1);
        checks.due("places(0) of the new snapshot", x.places(0), 0);
    }

    private static void linksAreZero(Checks checks) {
        MorphIndex x = new MorphIndex();
        for (int a = 1; a < 8; a++) {
            Checks.draft(x, 10 + a);
            x.word(a, 0, 0, -1);
        }
        for (int a = 1; a < 8; a++) {
            for (int b = 1; b < 8; b++) {
                Checks.draft(x, 10 + a, 10 + b);
                checks.due("new links of " + a + " and " + b, x.cost(), 0);
            }
        }
    }

    private static void objectsAreApart(Checks checks) {
        MorphIndex first = new MorphIndex();
        first.type(65);
        first.word(3, 9, 0, -1);
        first.chain(0, 3);
        first.add();
        first.flush();
        MorphIndex second = new MorphIndex();
        second.type(65);
        checks.due("the second object's part", second.token(0, 2), 1);
        checks.due("the second object's term", second.term(0), 65);
        checks.due("the second object's segments", second.segment(-1), 0);
        checks.due("the second object's first document", second.add(), 0);
    }
}
