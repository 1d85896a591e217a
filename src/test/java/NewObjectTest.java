/** Promise 1: a new object. */
public final class NewObjectTest {
    public static void main(String[] args) {
        Checks checks = new Checks();
        startsEmpty(checks);
        startsWithPlainRulesAndLinks(checks);
        objectsAreApart(checks);
        checks.finish();
    }

    private static void startsEmpty(Checks checks) {
        MorphIndex x = new MorphIndex();
        checks.due("NONE", MorphIndex.NONE, -1);
        checks.due("new cost()", x.cost(), 0);
        checks.due("new paths()", x.paths(), 1);
        checks.due("new nodes()", x.nodes(), 0);
        checks.due("new tokens()", x.tokens(), 0);
        checks.due("new token(0, 0)", x.token(0, 0), -1);
        checks.due("new term(0)", x.term(0), 0);
        checks.due("new add()", x.add(), -1);
        checks.due("new word()", x.word(1, 0, 0, -1), -1);
        checks.due("new drop(0)", x.drop(0), false);
        checks.due("new flush()", x.flush(), -1);
        checks.due("new segment(-1)", x.segment(-1), 0);
        checks.due("new segment(0)", x.segment(0), -1);
        checks.due("new match(0)", x.match(0), -1);
        checks.due("new places(0)", x.places(0), 0);
        checks.due("new open()", x.open(), 0);
    }

    private static void startsWithPlainRulesAndLinks(Checks checks) {
        int[] starts = {1, 64, 128, 192};
        for (int k = 0; k < starts.length; k++) {
            MorphIndex x = new MorphIndex();
            Checks.draft(x, Checks.repeated(starts[k], 9));
            checks.due("new nodes() of class " + k, x.nodes(), 9);
            checks.due("new cost() of class " + k, x.cost(), 0);
            checks.due("new part of class " + k, x.token(8, 2), 1);
            checks.due("new length of class " + k, x.token(8, 1), 1);
            checks.due("new term of class " + k, x.term(8), starts[k]);
        }
        linksAreZero(checks);
        modeIsZero(checks);
        snapshotIsEmpty(checks);
    }

    private static void modeIsZero(Checks checks) {
        int[] starts = {1, 64, 128, 192};
        for (int k = 0; k < starts.length; k++) {
            MorphIndex x = new MorphIndex();
            x.rule(k, 2, 1, 3);
            Checks.draft(x, Checks.repeated(starts[k], 8));
            checks.due("new charge of class " + k, x.cost(), 3);
        }
    }

    private static void snapshotIsEmpty(Checks checks) {
        MorphIndex x = new MorphIndex();
        x.type(65);
        x.add();
        x.flush();
        checks.due("match(0) of the new snapshot", x.match(0), -1);
        checks.due("places(0) of the new snapshot", x.places(0), 0);
    }

    private static void linksAreZero(Checks checks) {
        MorphIndex x = new MorphIndex();
        for (int a = 1; a < 8; a++) {
            Checks.draft(x, 10 + a);
            x.word(a, 0, 0, -1);
        }
        for (int a = 1; a < 8; a++) {
            for (int b = 1; b < 8; b++) {
                Checks.draft(x, 10 + a, 10 + b);
                checks.due("new links of " + a + " and " + b, x.cost(), 0);
            }
        }
    }

    private static void objectsAreApart(Checks checks) {
        MorphIndex first = new MorphIndex();
        first.type(65);
        first.word(3, 9, 0, -1);
        first.chain(0, 3);
        first.add();
        first.flush();
        MorphIndex second = new MorphIndex();
        second.type(65);
        checks.due("the second object's part", second.token(0, 2), 1);
        checks.due("the second object's term", second.term(0), 65);
        checks.due("the second object's segments", second.segment(-1), 0);
        checks.due("the second object's first document", second.add(), 0);
    }
}
