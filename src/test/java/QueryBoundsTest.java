/** The limits of snapshots and queries: promises 18 to 20, and what 'Terms' says of them. */
public final class QueryBoundsTest {
    public static void main(String[] args) {
        Checks checks = new Checks();
        opensNone(checks);
        opensWhatLiesAndIsNotDropped(checks);
        openAloneChangesTheSnapshot(checks);
        droppedSinceIsStillThere(checks);
        matchesFromItsNumberOn(checks);
        matchesTheLastDocument(checks);
        placesAreOfTheSnapshotAlone(checks);
        occursAtTheFirstAndTheLastPosition(checks);
        occursAsOftenAsItFits(checks);
        longerThanTheText(checks);
        withoutTermsOccursNowhere(checks);
        droppedTermsKeepTheirDistance(checks);
        firstTermMayStandBeforeWhatTheQueryHas(checks);
        compoundsAreFoundButNotAsked(checks);
        compoundsAreFiltered(checks);
        termsOfEightCharacters(checks);
        checks.finish();
    }

    /** "The SNAPSHOT is a set of documents, at first none", "how many" */
    private static void opensNone(Checks checks) {
        MorphIndex x = Checks.drafted(65);
        checks.due("open() of no document", x.open(), 0);
        x.add();
        checks.due("open() of one that waits", x.open(), 0);
        checks.due("match(0) of one that waits", x.match(0), -1);
        x.flush();
        checks.due("match(0) before open()", x.match(0), -1);
        checks.due("places(0) before open()", x.places(0), 0);
        checks.due("open() of one", x.open(), 1);
        checks.due("match(0) of one", x.match(0), 0);
        x.drop(0);
        checks.due("open() of one dropped", x.open(), 0);
        checks.due("match(0) of one dropped", x.match(0), -1);
        checks.due("places(0) of one dropped", x.places(0), 0);
    }

    /** "The snapshot becomes the documents that lie in segments and are not dropped" */
    private static void opensWhatLiesAndIsNotDropped(Checks checks) {
        MorphIndex x = Checks.drafted(65);
        for (int i = 0; i < 3; i++) {
            x.add();
        }
        x.drop(0);
        x.flush();
        x.drop(2);
        x.add();
        checks.due("open()", x.open(), 1);
        int[] due = {0, 1, 0, 0, 0};
        for (int doc = 0; doc < due.length; doc++) {
            checks.due("places(" + doc + ")", x.places(doc), due[doc]);
        }
        x.flush();
        checks.due("open() of all segments", x.open(), 2);
        checks.due("places(3) then", x.places(3), 1);
    }

    /** "open() alone changes it": not add, flush, drop or a merge. */
    private static void openAloneChangesTheSnapshot(Checks checks) {
        MorphIndex x = Checks.drafted(65);
        for (int i = 0; i < 5; i++) {
            x.add();
            x.flush();
            dueSnapshotOf(checks, "before open()", x, 0);
        }
        x.open();
        dueSnapshotOf(checks, "after open()", x, 5);
        x.drop(0);
        x.drop(4);
        for (int i = 0; i < 5; i++) {
            x.add();
            x.flush();
            dueSnapshotOf(checks, "after open() and more", x, 5);
        }
        checks.due("open() again", x.open(), 8);
        checks.due("places(0) then", x.places(0), 0);
        checks.due("places(9) then", x.places(9), 1);
    }

    /** The snapshot is documents 0 .. count - 1; the draft occurs once in each. */
    private static void dueSnapshotOf(Checks checks, String when, MorphIndex x, int count) {
        for (int doc = 0; doc < 11; doc++) {
            checks.due("places(" + doc + ") " + when, x.places(doc), doc < count ? 1 : 0);
            checks.due("match(" + doc + ") " + when, x.match(doc), doc < count ? doc : -1);
        }
    }

    /** "a document of the snapshot (dropped since, or not)": in its segment, and merged away. */
    private static void droppedSinceIsStillThere(Checks checks) {
        MorphIndex x = Checks.drafted(65);
        x.add();
        x.flush();
        x.open();
        x.drop(0);
        checks.due("match(0) of one dropped since", x.match(0), 0);
        checks.due("places(0) of one dropped since", x.places(0), 1);
        for (int i = 0; i < 3; i++) {
            x.add();
            x.flush();
        }
        checks.dueSegments("it went with a merge", x, 1, 1, 1);
        checks.due("match(0) of one merged away", x.match(0), 0);
        checks.due("places(0) of one merged away", x.places(0), 1);
        checks.due("match(1) of one flushed since", x.match(1), -1);
    }

    /** "The least number .. from this one on": its own number is the last that finds it. */
    private static void matchesFromItsNumberOn(Checks checks) {
        MorphIndex x = new MorphIndex();
        int[] drafts = {66, 65, 66, 65};
        for (int draft : drafts) {
            Checks.addDraft(x, draft);
        }
        x.flush();
        x.open();
        Checks.draft(x, 65);
        int[][] due = {{Integer.MIN_VALUE, 1}, {-64, 1}, {-2, 1}, {-1, 1}, {0, 1}, {1, 1}, {2, 3}, {3, 3}, {4, -1},
            {5, -1}, {39, -1}, {40, -1}, {41, -1}, {63, -1}, {64, -1}, {65, -1}, {Integer.MAX_VALUE, -1}};
        for (int[] d : due) {
            checks.due("match(" + d[0] + ")", x.match(d[0]), d[1]);
        }
    }

    /** Documents 31, 32 and 39 are found as the others are. */
    private static void matchesTheLastDocument(Checks checks) {
        for (int doc : new int[] {0, 31, 32, 38, 39}) {
            MorphIndex x = new MorphIndex();
            for (int i = 0; i < 40; i++) {
                Checks.draft(x, i == doc ? 65 : 66);
                x.add();
                if (i % 4 == 3) {
                    x.flush();
                }
            }
            checks.due("open() of 40", x.open(), 40);
            Checks.draft(x, 65);
            checks.due("match(0) of " + doc, x.match(0), doc);
            checks.due("match of it from " + doc, x.match(doc), doc);
            checks.due("match of it from the next", x.match(doc + 1), -1);
            checks.due("places(" + doc + ")", x.places(doc), 1);
            checks.due("places of the one before", x.places(doc - 1), 0);
            checks.due("places of the one behind", x.places(doc + 1), 0);
        }
    }

    /** "if it is one of the snapshot; otherwise 0" */
    private static void placesAreOfTheSnapshotAlone(Checks checks) {
        MorphIndex x = Checks.drafted(65);
        x.add();
        x.add();
        x.flush();
        x.open();
        x.add();
        for (int doc : new int[] {-1, 2, 3, 39, 40, 63, 64, 65, -63, -64, Integer.MIN_VALUE, Integer.MAX_VALUE}) {
            checks.due("places(" + doc + ")", x.places(doc), 0);
        }
        checks.due("places(0)", x.places(0), 1);
        checks.due("places(1)", x.places(1), 1);
    }

    /** "It OCCURS in a document at position p": the first and the last one too. */
    private static void occursAtTheFirstAndTheLastPosition(Checks checks) {
        for (int size : new int[] {1, 2, 3, 23, 24}) {
            for (int at : new int[] {0, size - 1}) {
                int[] characters = Checks.repeated(66, size);
                characters[at] = 65;
                MorphIndex x = Checks.drafted(characters);
                x.add();
                x.flush();
                x.open();
                Checks.draft(x, 65);
                checks.due("places of one at " + at + " of " + size, x.places(0), 1);
                Checks.draft(x, characters);
                checks.due("places of all " + size, x.places(0), 1);
                checks.due("match of all " + size, x.match(0), 0);
            }
        }
    }

    /** "At how many positions the query occurs in the document" */
    private static void occursAsOftenAsItFits(Checks checks) {
        MorphIndex x = Checks.drafted(Checks.repeated(65, 24));
        x.add();
        x.flush();
        x.open();
        for (int size = 1; size <= 24; size++) {
            Checks.draft(x, Checks.repeated(65, size));
            checks.due("places of " + size + " in 24", x.places(0), 25 - size);
        }
    }

    /** A query of one term more than the text has occurs nowhere in it. */
    private static void longerThanTheText(Checks checks) {
        for (int size : new int[] {1, 2, 22, 23}) {
            MorphIndex x = Checks.drafted(Checks.repeated(65, size));
            x.add();
            x.flush();
            x.open();
            checks.due("as long as the text", x.places(0), 1);
            x.type(65);
            checks.due("one longer than the text", x.places(0), 0);
            checks.due("match of one longer than the text", x.match(0), -1);
        }
    }

    /** "A query without terms occurs nowhere." */
    private static void withoutTermsOccursNowhere(Checks checks) {
        MorphIndex x = Checks.drafted(65, 66);
        x.add();
        x.chain(0, 1);
        x.add();
        x.chain(-1, 0);
        x.flush();
        x.open();
        x.type(0);
        dueNowhere(checks, "the empty draft", x);
        for (int size = 1; size <= 24; size++) {
            Checks.draft(x, Checks.repeated(65, size));
            x.chain(0, 1);
            dueNowhere(checks, "dropped terms of " + size, x);
            x.chain(-1, 0);
        }
        Checks.draft(x, 65);
        checks.due("a query with a term", x.match(0), 0);
        checks.due("a text without terms", x.match(1), -1);
    }

    private static void dueNowhere(Checks checks, String what, MorphIndex x) {
        checks.due("match of " + what, x.match(0), -1);
        checks.due("places of " + what, x.places(0), 0);
        checks.due("places of " + what + " in a text without terms", x.places(1), 0);
    }

    /** "for each term t of the query, of position q, the posting (t, p + q - f)": dropped ones between count. */
    private static void droppedTermsKeepTheirDistance(Checks checks) {
        for (int gap = 0; gap <= 22; gap++) {
            MorphIndex x = new MorphIndex();
            Checks.enter(x, 2, 0, 90);
            int[] query = Checks.repeated(90, gap + 2);
            query[0] = 65;
            query[gap + 1] = 66;
            int[] text = query.clone();
            java.util.Arrays.fill(text, 1, gap + 1, 67);
            Checks.addDraft(x, text);
            x.flush();
            x.open();
            x.chain(0, 2);
            Checks.draft(x, query);
            checks.due("a gap of " + gap, x.places(0), 1);
            if (gap > 0) {
                int[] less = java.util.Arrays.copyOfRange(query, 1, gap + 2);
                less[0] = 65;
                Checks.draft(x, less);
                checks.due("a gap of one less than " + gap, x.places(0), 0);
            }
            if (gap < 22) {
                int[] more = java.util.Arrays.copyOf(query, gap + 3);
                more[gap + 1] = 90;
                more[gap + 2] = 66;
                Checks.draft(x, more);
                checks.due("a gap of one more than " + gap, x.places(0), 0);
            }
        }
    }

    /** "where f is the position of its first term": dropped ones before and behind it need no room in the text. */
    private static void firstTermMayStandBeforeWhatTheQueryHas(Checks checks) {
        MorphIndex x = new MorphIndex();
        Checks.enter(x, 2, 0, 90);
        Checks.addDraft(x, 65);
        Checks.addDraft(x, 66, 65);
        Checks.addDraft(x, 65, 65, 66);
        x.flush();
        x.open();
        x.chain(0, 2);
        for (int before = 0; before <= 23; before++) {
            int[] query = Checks.repeated(90, 24);
            query[before] = 65;
            Checks.draft(x, query);
            checks.due("a term behind " + before + " dropped ones in one", x.places(0), 1);
            checks.due("a term behind " + before + " dropped ones in two", x.places(1), 1);
            checks.due("a term behind " + before + " dropped ones in three", x.places(2), 2);
        }
    }

    /** "the terms of its tokens (not of compounds)", and the postings of compounds */
    private static void compoundsAreFoundButNotAsked(Checks checks) {
        MorphIndex x = new MorphIndex();
        Checks.enter(x, 2, 1, 65, 65, 65);
        x.rule(1, 5, 1, 1);
        Checks.addDraft(x, 65, 65, 65);
        x.mode(10000, 0);
        Checks.addDraft(x, 65, 65, 65);
        checks.due("flush() of one, and of three and a compound", x.flush(), 1 + 4);
        x.open();
        checks.due("the query has a compound", x.token(0, 4), 3);
        checks.due("it is not asked for", x.places(0), 0);
        checks.due("its tokens are", x.places(1), 1);
        x.mode(0, 0);
        checks.due("the query is one token", x.tokens(), 1);
        checks.due("it is found as a token", x.places(0), 1);
        checks.due("it is found as a compound", x.places(1), 1);
        Checks.draft(x, 65, 65);
        checks.due("two of the three tokens", x.places(1), 2);
        MorphIndex y = Checks.drafted(65, 65, 65);
        y.add();
        y.flush();
        y.open();
        y.word(2, 1, 0, -1);
        y.rule(1, 5, 1, 1);
        y.mode(10000, 0);
        checks.due("the query has a compound that the text has not", y.token(0, 4), 3);
        checks.due("the text has the tokens", y.places(0), 1);
    }

    /** "The TERM of a token or compound": each filter, on a compound of 5 characters of class 3 and part 2. */
    private static void compoundsAreFiltered(Checks checks) {
        int[][] chains = {{}, {2, 0}, {2, 0, 3, 4}, {2, 0, 3, 5}, {3, 4, 2, 0}, {0, 2}, {0, 1}, {1, 0}};
        int[][] found = {{200, 200, 200, 200, 255}, {136, 136, 136, 136, 191}, {136, 136, 136, 136},
            {136, 136, 136, 136, 191}, {136, 136, 136, 136, 191}, {}, {200, 200, 200, 200, 255}, {66, 67}};
        int[] postings = {6, 6, 6, 6, 6, 5, 1, 6};
        for (int i = 0; i < chains.length; i++) {
            MorphIndex x = new MorphIndex();
            Checks.enter(x, 3, 0, 66, 67);
            Checks.draft(x, 200, 200, 200, 200, 255);
            x.word(2, 1, 0, 0);
            x.rule(3, 5, 1, 1);
            x.mode(0, 10000);
            for (int f = 0; f < chains[i].length; f += 2) {
                x.chain(chains[i][f], chains[i][f + 1]);
            }
            checks.due("the compound before filters " + i, x.token(0, 4), 5);
            x.add();
            checks.due("postings with filters " + i, x.flush(), postings[i]);
            x.open();
            x.chain(-1, 0);
            x.mode(0, 0);
            Checks.draft(x, found[i]);
            if (found[i].length > 0) {
                x.word(4, -1, 0, -1);
            }
            checks.due("the compound's term with filters " + i, x.places(0), found[i].length > 0 ? 1 : 0);
        }
    }

    /** Terms of 8 characters from 128 on are numbers below 0 as a long. */
    private static void termsOfEightCharacters(Checks checks) {
        MorphIndex x = new MorphIndex();
        Checks.enter(x, 1, 0, Checks.repeated(255, 8));
        x.add();
        int[] other = Checks.repeated(255, 8);
        other[7] = 254;
        Checks.addDraft(x, other);
        checks.due("flush() of one and eight", x.flush(), 9);
        x.open();
        Checks.draft(x, Checks.repeated(255, 8));
        checks.due("match(0) of eight of 255", x.match(0), 0);
        checks.due("match(1) of eight of 255", x.match(1), -1);
        checks.due("places(0) of eight of 255", x.places(0), 1);
        Checks.draft(x, 255);
        checks.due("places(1) of one of 255", x.places(1), 7);
        checks.due("places(0) of one of 255", x.places(0), 0);
        for (int place = 0; place < 8; place++) {
            int[] text = Checks.repeated(65, 8);
            int[] query = Checks.repeated(65, 8);
            query[place] = 66;
            MorphIndex y = new MorphIndex();
            Checks.enter(y, 1, 0, query);
            Checks.enter(y, 1, 0, text);
            y.add();
            y.flush();
            y.open();
            checks.due("places of the same eight", y.places(0), 1);
            Checks.draft(y, query);
            checks.due("one token of eight", y.tokens(), 1);
            checks.due("places of eight that differ at " + place, y.places(0), 0);
        }
    }
}
