/** Promises 14 to 17: add, drop, flush and segment. */
public final class IndexTest {
    public static void main(String[] args) {
        Checks checks = new Checks();
        addsDocuments(checks);
        refusesTheFortyFirst(checks);
        dropsDocuments(checks);
        flushesWhatWaits(checks);
        countsPostings(checks);
        mergesTheFewest(checks);
        mergesTheForemostOfEquals(checks);
        mergesWithoutDropped(checks);
        mergesToNothing(checks);
        refusesWrongSegments(checks);
        checks.finish();
    }

    private static void addFlushed(MorphIndex x, int times) {
        for (int i = 0; i < times; i++) {
            x.add();
        }
        x.flush();
    }

    private static void addsDocuments(Checks checks) {
        MorphIndex x = new MorphIndex();
        checks.due("add() of the empty draft", x.add(), -1);
        x.type(65);
        for (int i = 0; i < 4; i++) {
            checks.due("add() " + i, x.add(), i);
        }
        checks.due("the fifth that waits", x.add(), -1);
        checks.due("the draft stays", x.term(0), 65);
        checks.due("no segment before flush", x.segment(-1), 0);
        x.drop(1);
        checks.due("room after drop", x.add(), 4);
        checks.due("no more room", x.add(), -1);
        x.flush();
        checks.due("room after flush", x.add(), 5);
    }

    private static void refusesTheFortyFirst(Checks checks) {
        MorphIndex x = new MorphIndex();
        x.type(65);
        for (int i = 0; i < 40; i++) {
            checks.due("add() " + i, x.add(), i);
            if (i % 2 == 0) {
                x.drop(i);
            }
            if (i % 4 == 3) {
                x.flush();
            }
        }
        checks.due("the forty-first", x.add(), -1);
        x.drop(39);
        checks.due("still the forty-first", x.add(), -1);
        checks.due("drop(40)", x.drop(40), false);
        checks.due("open()", x.open(), 19);
    }

    private static void dropsDocuments(Checks checks) {
        MorphIndex x = new MorphIndex();
        x.type(65);
        checks.due("drop of none", x.drop(0), false);
        x.add();
        x.add();
        int[] wrong = {-1, 2, 40, 64, 65, Integer.MIN_VALUE, Integer.MAX_VALUE};
        for (int doc : wrong) {
            checks.due("drop(" + doc + ")", x.drop(doc), false);
        }
        checks.due("drop of one that waits", x.drop(0), true);
        checks.due("drop again", x.drop(0), false);
        checks.due("flush of the other", x.flush(), 1);
        checks.due("drop after it was dropped waiting", x.drop(0), false);
        checks.due("drop of one that lies", x.drop(1), true);
        checks.due("drop of it again", x.drop(1), false);
        checks.dueSegments("it still lies there", x, 1);
        checks.due("open()", x.open(), 0);
    }

    private static void flushesWhatWaits(Checks checks) {
        MorphIndex x = new MorphIndex();
        checks.due("flush() of none", x.flush(), -1);
        Checks.draft(x, 65, 66);
        x.add();
        x.drop(0);
        checks.due("flush() of dropped ones", x.flush(), -1);
        checks.dueSegments("no segment of dropped ones", x);
        x.add();
        x.add();
        x.type(67);
        x.add();
        x.drop(1);
        checks.due("flush() of two", x.flush(), 5);
        checks.dueSegments("one segment", x, 2);
        checks.due("flush() again", x.flush(), -1);
        checks.dueSegments("still one segment", x, 2);
    }

    private static void countsPostings(Checks checks) {
        MorphIndex x = new MorphIndex();
        Checks.draft(x, 65, 65, 65);
        x.word(1, 1, 0, -1);
        x.rule(1, 5, 1, 1);
        x.mode(5, 0);
        checks.due("the compound", x.token(0, 4), 3);
        x.add();
        checks.due("tokens and compound", x.flush(), 4);
        x.chain(0, 1);
        x.add();
        checks.due("all dropped", x.flush(), 0);
        x.chain(-1, 0);
        checks.due("a document without postings lies there", x.segment(1), 1);
        x.rule(1, 5, 2, 1);
        x.chain(0, 2);
        x.add();
        checks.due("the compound alone", x.flush(), 1);
        countsEqualPairsOnce(checks);
    }

    /** The compound "ABC" has the base "AB", which is the token with which it begins. */
    private static void countsEqualPairsOnce(Checks checks) {
        MorphIndex x = new MorphIndex();
        Checks.draft(x, 65, 66);
        x.word(1, 1, 0, -1);
        x.type(67);
        x.word(2, 1, 0, 0);
        x.mode(100, 0);
        checks.due("the compound of equal terms", x.token(0, 4), 3);
        x.add();
        checks.due("unequal terms", x.flush(), 3);
        x.chain(1, 0);
        x.add();
        checks.due("equal terms", x.flush(), 2);
        x.chain(0, 2);
        x.add();
        checks.due("dropped compound", x.flush(), 2);
        x.chain(-1, 0);
        x.chain(0, 1);
        x.add();
        checks.due("dropped tokens, and the merged two before", x.flush(), 1 + 5);
    }

    private static void mergesTheFewest(Checks checks) {
        MorphIndex x = new MorphIndex();
        x.type(65);
        addFlushed(x, 3);
        addFlushed(x, 2);
        addFlushed(x, 1);
        checks.dueSegments("three segments", x, 3, 2, 1);
        x.add();
        checks.due("flush() with a merge of the last two", x.flush(), 1 + 2);
        checks.dueSegments("the last two merged", x, 3, 2, 2);
        addFlushed(x, 4);
        checks.dueSegments("the middle two merged", x, 3, 4, 4);
        x.add();
        checks.due("flush() of one behind 3, 4, 4", x.flush(), 1 + 5);
        checks.dueSegments("the new one merged", x, 3, 4, 5);
        x.type(66);
        addFlushed(x, 4);
        checks.dueSegments("the first two merged", x, 7, 5, 4);
    }

    private static void mergesTheForemostOfEquals(Checks checks) {
        MorphIndex x = new MorphIndex();
        x.type(65);
        addFlushed(x, 1);
        addFlushed(x, 2);
        addFlushed(x, 1);
        addFlushed(x, 2);
        checks.dueSegments("the foremost of three", x, 3, 1, 2);
        addFlushed(x, 1);
        checks.dueSegments("the foremost of two", x, 3, 3, 1);
    }

    private static void mergesWithoutDropped(Checks checks) {
        MorphIndex x = new MorphIndex();
        Checks.draft(x, 65, 66, 67);
        addFlushed(x, 2);
        addFlushed(x, 2);
        addFlushed(x, 1);
        x.drop(0);
        x.drop(1);
        x.drop(2);
        checks.dueSegments("dropped ones still lie there", x, 2, 2, 1);
        x.add();
        checks.due("dropped ones count for the choice", x.flush(), 3 + 6);
        checks.dueSegments("the last two merged", x, 2, 2, 2);
        addFlushed(x, 4);
        checks.dueSegments("the first two, with one left", x, 1, 2, 4);
        checks.due("drop of one that is gone", x.drop(0), false);
        checks.due("open()", x.open(), 7);
    }

    private static void mergesToNothing(Checks checks) {
        MorphIndex x = new MorphIndex();
        Checks.draft(x, 65, 66);
        addFlushed(x, 4);
        addFlushed(x, 1);
        addFlushed(x, 1);
        x.drop(4);
        x.drop(5);
        x.add();
        x.add();
        checks.due("flush() with a merge to nothing", x.flush(), 4);
        checks.dueSegments("both are gone", x, 4, 2);
        x.add();
        checks.due("flush() without a merge", x.flush(), 2);
        checks.dueSegments("three again", x, 4, 2, 1);
    }

    private static void refusesWrongSegments(Checks checks) {
        MorphIndex x = new MorphIndex();
        x.type(65);
        addFlushed(x, 2);
        int[] wrong = {-2, 1, 2, 3, 4, 5, Integer.MIN_VALUE, Integer.MAX_VALUE};
        for (int i : wrong) {
            checks.due("segment(" + i + ")", x.segment(i), -1);
        }
        checks.due("segment(0)", x.segment(0), 2);
    }
}
