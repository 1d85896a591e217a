/** Promises 18 to 20: open, match and places. */
public final class QueryTest {
    public static void main(String[] args) {
        Checks checks = new Checks();
        opensWhatLies(checks);
        keepsTheSnapshot(checks);
        matchesFromANumberOn(checks);
        countsPlaces(checks);
        looksForPhrases(checks);
        leavesGapsForDroppedTerms(checks);
        findsCompounds(checks);
        keepsThePostings(checks);
        findsNothingWithoutTerms(checks);
        checks.finish();
    }

    private static void opensWhatLies(Checks checks) {
        MorphIndex x = new MorphIndex();
        checks.due("open() of none", x.open(), 0);
        Checks.addDraft(x, 65);
        Checks.addDraft(x, 65);
        Checks.addDraft(x, 65);
        checks.due("open() of those that wait", x.open(), 0);
        x.flush();
        checks.due("match before open()", x.match(0), -1);
        checks.due("places before open()", x.places(0), 0);
        x.drop(1);
        checks.due("open() of those that lie", x.open(), 2);
        checks.due("match(0)", x.match(0), 0);
        checks.due("match(1)", x.match(1), 2);
        checks.due("places(1)", x.places(1), 0);
        checks.due("open() again", x.open(), 2);
    }

    private static void keepsTheSnapshot(Checks checks) {
        MorphIndex x = new MorphIndex();
        Checks.addDraft(x, 65);
        x.flush();
        Checks.addDraft(x, 65);
        x.flush();
        x.open();
        x.drop(0);
        checks.due("dropped since, still matched", x.match(0), 0);
        checks.due("dropped since, still places", x.places(0), 1);
        for (int i = 0; i < 3; i++) {
            Checks.addDraft(x, 65);
            x.flush();
        }
        checks.due("merged away, still matched", x.match(0), 0);
        checks.due("flushed since, not matched", x.match(2), -1);
        checks.due("flushed since, no places", x.places(2), 0);
        checks.due("open()", x.open(), 4);
        checks.due("after open() no more", x.match(0), 1);
        checks.due("after open() matched", x.match(2), 2);
        x.drop(1);
        x.drop(2);
        x.drop(3);
        x.drop(4);
        checks.due("open() of none left", x.open(), 0);
        checks.due("none left", x.match(0), -1);
    }

    private static void matchesFromANumberOn(Checks checks) {
        MorphIndex x = new MorphIndex();
        int[][] drafts = {{65}, {66}, {65}, {67}};
        for (int[] draft : drafts) {
            Checks.addDraft(x, draft);
        }
        x.flush();
        x.open();
        Checks.draft(x, 65);
        int[][] due = {{Integer.MIN_VALUE, 0}, {-1, 0}, {0, 0}, {1, 2}, {2, 2}, {3, -1}, {4, -1}, {40, -1},
            {64, -1}, {Integer.MAX_VALUE, -1}};
        for (int[] d : due) {
            checks.due("match(" + d[0] + ")", x.match(d[0]), d[1]);
        }
        int[] wrong = {-1, 4, 40, 64, 66, -64, Integer.MIN_VALUE, Integer.MAX_VALUE};
        for (int doc : wrong) {
            checks.due("places(" + doc + ")", x.places(doc), 0);
        }
        Checks.draft(x, 68);
        checks.due("match of none", x.match(0), -1);
    }

    private static void countsPlaces(Checks checks) {
        MorphIndex x = new MorphIndex();
        Checks.addDraft(x, Checks.repeated(65, 24));
        Checks.addDraft(x, 65, 66, 65, 66, 65);
        x.flush();
        x.open();
        Checks.draft(x, 65);
        checks.due("places of one in 24", x.places(0), 24);
        checks.due("places of one", x.places(1), 3);
        Checks.draft(x, 65, 65, 65);
        checks.due("places of three in 24", x.places(0), 22);
        checks.due("places of three", x.places(1), 0);
        Checks.draft(x, Checks.repeated(65, 24));
        checks.due("places of 24 in 24", x.places(0), 1);
        Checks.draft(x, 65, 66, 65);
        checks.due("places that overlap", x.places(1), 2);
    }

    private static void looksForPhrases(Checks checks) {
        MorphIndex x = new MorphIndex();
        Checks.addDraft(x, 65, 66, 67);
        Checks.addDraft(x, 66, 65, 67);
        Checks.addDraft(x, 67, 65, 66);
        x.flush();
        x.open();
        Checks.draft(x, 65, 66);
        checks.due("first phrase", x.match(0), 0);
        checks.due("next phrase", x.match(1), 2);
        Checks.draft(x, 65, 67);
        checks.due("another phrase", x.match(0), 1);
        Checks.draft(x, 67, 66);
        checks.due("no phrase", x.match(0), -1);
        Checks.draft(x, 65, 66, 67, 65);
        checks.due("a phrase beyond the end", x.match(0), -1);
    }

    /** Part 2 is stopped: its tokens keep their positions. */
    private static void leavesGapsForDroppedTerms(Checks checks) {
        MorphIndex x = new MorphIndex();
        Checks.draft(x, 90);
        x.word(2, 0, 0, -1);
        x.chain(0, 2);
        Checks.addDraft(x, 65, 90, 66);
        Checks.addDraft(x, 65, 66);
        Checks.addDraft(x, 65, 67, 66);
        x.flush();
        checks.due("open()", x.open(), 3);
        Checks.draft(x, 65, 90, 66);
        checks.due("with a gap", x.match(0), 0);
        checks.due("any term in the gap", x.match(1), 2);
        checks.due("no gap in the text", x.places(1), 0);
        Checks.draft(x, 65, 66);
        checks.due("no gap in the query", x.match(0), 1);
        Checks.draft(x, 90, 90, 65, 66, 90);
        checks.due("dropped ones in front and behind", x.match(0), 1);
        checks.due("their place", x.places(1), 1);
        Checks.draft(x, 90, 66);
        checks.due("the first term counts", x.match(0), 0);
        checks.due("the first term is at the end", x.places(0), 1);
        x.chain(-1, 0);
        checks.due("the chain of now", x.match(0), -1);
    }

    private static void findsCompounds(Checks checks) {
        MorphIndex x = new MorphIndex();
        Checks.draft(x, 65, 66, 67);
        x.word(3, 1, 0, -1);
        x.rule(1, 5, 1, 1);
        x.mode(10, 0);
        Checks.addDraft(x, 68, 65, 66, 67, 68);
        checks.due("flush() with a compound", x.flush(), 6);
        x.open();
        Checks.draft(x, 65, 66, 67);
        checks.due("the tokens of the compound", x.match(0), 0);
        x.mode(0, 0);
        checks.due("one token", x.tokens(), 1);
        checks.due("the compound itself", x.match(0), 0);
        checks.due("its place", x.places(0), 1);
        Checks.draft(x, 68, 65, 66, 67);
        checks.due("behind another", x.match(0), 0);
        Checks.draft(x, 65, 66, 67, 68);
        checks.due("what follows is two positions on", x.match(0), -1);
        asksWithoutCompounds(checks);
    }

    private static void asksWithoutCompounds(Checks checks) {
        MorphIndex x = new MorphIndex();
        Checks.addDraft(x, 65, 66, 67);
        x.flush();
        x.open();
        x.word(3, 1, 0, -1);
        x.rule(1, 5, 1, 1);
        x.mode(10, 0);
        checks.due("the query has a compound", x.token(0, 4), 3);
        checks.due("which is not asked for", x.match(0), 0);
    }

    private static void keepsThePostings(Checks checks) {
        MorphIndex x = new MorphIndex();
        Checks.addDraft(x, 193, 65);
        x.chain(2, 0);
        x.word(4, -9, 0, -1);
        x.flush();
        x.open();
        Checks.draft(x, 193);
        checks.due("the filter of now is not the text's", x.match(0), -1);
        x.chain(-1, 0);
        checks.due("the text's own terms", x.match(0), 0);
        Checks.draft(x, 193, 65);
        checks.due("the word of now is not the text's", x.match(0), -1);
        Checks.draft(x, 65);
        checks.due("the text's own tokens", x.places(0), 1);
    }

    private static void findsNothingWithoutTerms(Checks checks) {
        MorphIndex x = new MorphIndex();
        Checks.addDraft(x, 65, 66);
        x.flush();
        x.open();
        x.type(0);
        checks.due("match of the empty draft", x.match(0), -1);
        checks.due("places of the empty draft", x.places(0), 0);
        Checks.draft(x, 65);
        x.chain(0, 1);
        checks.due("match of dropped terms", x.match(0), -1);
        checks.due("places of dropped terms", x.places(0), 0);
        Checks.draft(x, Checks.repeated(65, 24));
        checks.due("match of 24 dropped terms", x.match(0), -1);
        checks.due("places of 24 dropped terms", x.places(0), 0);
    }
}
