/** The limits of documents and segments: promises 14 to 17, and what 'Terms' says of them. */
public final class IndexBoundsTest {
    public static void main(String[] args) {
        Checks checks = new Checks();
        addNeedsADraft(checks);
        documentsAreAtMost40(checks);
        droppedDocumentsCountForThe40(checks);
        atMost4Wait(checks);
        droppedWaitNoMore(checks);
        dropNeedsADocument(checks);
        dropsOnce(checks);
        dropsTheFirstAndTheLast(checks);
        flushNeedsOneThatWaits(checks);
        flushTakes1To4(checks);
        flushAnswersTheNewSegmentsPostings(checks);
        mergesFromFourSegmentsOn(checks);
        mergesTheFewest(checks);
        mergesByDocumentsNotPostings(checks);
        mergesTheForemostOfEquals(checks);
        mergesByDroppedOnesToo(checks);
        mergesWithoutDroppedOnes(checks);
        mergesToNothing(checks);
        mergesTheNewSegment(checks);
        equalPairsCountOnce(checks);
        postingsStayAsTheyWere(checks);
        segmentNumbersAreThoseOfSegments(checks);
        checks.finish();
    }

    private static void addFlushed(MorphIndex x, int times) {
        for (int i = 0; i < times; i++) {
            x.add();
        }
        x.flush();
    }

    /** "Refused, NONE, when the draft is empty" */
    private static void addNeedsADraft(Checks checks) {
        for (int size = 0; size <= 24; size++) {
            MorphIndex x = Checks.drafted(Checks.repeated(65, size));
            checks.due("add() of " + size, x.add(), size == 0 ? -1 : 0);
            checks.due("flush() of " + size, x.flush(), size == 0 ? -1 : size);
        }
        MorphIndex x = Checks.drafted(65);
        x.type(0);
        checks.due("add() of the emptied draft", x.add(), -1);
        x.type(65);
        checks.due("add() then", x.add(), 0);
    }

    /** "DOCUMENTS have numbers 0, 1, .. at most 40 of them", "40 documents were added" */
    private static void documentsAreAtMost40(Checks checks) {
        MorphIndex x = Checks.drafted(65);
        for (int i = 0; i < 40; i++) {
            checks.due("add() " + i, x.add(), i);
            checks.due("flush() " + i + " is taken", x.flush() >= 1, true);
        }
        checks.due("add() 40", x.add(), -1);
        checks.due("nothing waits", x.flush(), -1);
        checks.due("open() of 40", x.open(), 40);
        checks.due("add() 40 again", x.add(), -1);
        checks.due("drop(40)", x.drop(40), false);
        checks.due("match(39)", x.match(39), 39);
        checks.due("match(40)", x.match(40), -1);
    }

    /** "40 documents were added": dropping one makes no room, and no number is given twice. */
    private static void droppedDocumentsCountForThe40(Checks checks) {
        MorphIndex x = Checks.drafted(65);
        for (int i = 0; i < 40; i++) {
            checks.due("add() " + i + " behind dropped ones", x.add(), i);
            checks.due("drop(" + i + ")", x.drop(i), true);
        }
        checks.due("add() behind 40 dropped ones", x.add(), -1);
        checks.due("flush() of 40 dropped ones", x.flush(), -1);
        checks.due("open() of 40 dropped ones", x.open(), 0);
        checks.due("segments of 40 dropped ones", x.segment(-1), 0);
    }

    /** "(at most 4 wait at a time)", "or 4 wait" */
    private static void atMost4Wait(Checks checks) {
        MorphIndex x = Checks.drafted(65);
        for (int round = 0; round < 3; round++) {
            for (int i = 0; i < 4; i++) {
                checks.due("add() in round " + round, x.add(), 4 * round + i);
            }
            checks.due("a fifth in round " + round, x.add(), -1);
            checks.due("a fifth in round " + round + " again", x.add(), -1);
            checks.due("flush() in round " + round, x.flush(), 4);
            checks.due("the new segment of round " + round, x.segment(round), 4);
        }
    }

    /** "A document that was DROPPED while it waited waits no more and comes into no segment" */
    private static void droppedWaitNoMore(Checks checks) {
        MorphIndex x = Checks.drafted(65);
        addFlushed(x, 1);
        for (int i = 1; i <= 4; i++) {
            x.add();
        }
        checks.due("a fifth", x.add(), -1);
        checks.due("drop of one in a segment", x.drop(0), true);
        checks.due("makes no room", x.add(), -1);
        checks.due("a refused drop", x.drop(0), false);
        checks.due("makes no room either", x.add(), -1);
        checks.due("drop of one that waits", x.drop(2), true);
        checks.due("makes room for one", x.add(), 5);
        checks.due("and no more", x.add(), -1);
        checks.due("flush() without it", x.flush(), 4);
        checks.dueSegments("the dropped one came into none", x, 1, 4);
        checks.due("open() without it", x.open(), 4);
        checks.due("places(2)", x.places(2), 0);
        checks.due("places(5)", x.places(5), 1);
    }

    /** "refused, false, when there is none of this number" */
    private static void dropNeedsADocument(Checks checks) {
        for (int count : new int[] {0, 1, 2, 4}) {
            for (int doc : new int[] {-1, count, count + 1, 40, 63, 64, 65, -64, Integer.MIN_VALUE,
                Integer.MAX_VALUE}) {
                MorphIndex x = Checks.drafted(65);
                for (int i = 0; i < count; i++) {
                    x.add();
                }
                checks.due("drop(" + doc + ") of " + count, x.drop(doc), false);
                checks.due("flush() after it", x.flush(), count == 0 ? -1 : count);
                checks.due("open() after it", x.open(), count);
            }
        }
        MorphIndex x = Checks.drafted(65);
        checks.due("drop(0) too early", x.drop(0), false);
        x.add();
        checks.due("drop(0) in time", x.drop(0), true);
    }

    /** "or it is dropped already": while it waited, in a segment, and after it went with a merge. */
    private static void dropsOnce(Checks checks) {
        MorphIndex x = Checks.drafted(65);
        x.add();
        x.add();
        checks.due("drop(0) while it waits", x.drop(0), true);
        checks.due("drop(0) again", x.drop(0), false);
        x.flush();
        checks.due("drop(0) after the flush", x.drop(0), false);
        checks.due("drop(1) in a segment", x.drop(1), true);
        checks.due("drop(1) again", x.drop(1), false);
        addFlushed(x, 1);
        addFlushed(x, 1);
        addFlushed(x, 1);
        checks.dueSegments("document 1 went with the merge", x, 1, 1, 1);
        checks.due("drop(1) after the merge", x.drop(1), false);
        checks.due("drop(2) after the merge", x.drop(2), true);
        checks.due("drop(2) again", x.drop(2), false);
        checks.due("drop(5) is none", x.drop(5), false);
    }

    /** Documents 0 and 39 are dropped alone, as are those on both sides of 31 and 32. */
    private static void dropsTheFirstAndTheLast(Checks checks) {
        for (int doc : new int[] {0, 1, 7, 8, 30, 31, 32, 33, 38, 39}) {
            MorphIndex x = Checks.drafted(65);
            for (int i = 0; i < 10; i++) {
                addFlushed(x, 4);
            }
            checks.due("drop(" + doc + ")", x.drop(doc), true);
            checks.due("open() after it", x.open(), 39);
            checks.due("places(" + doc + ")", x.places(doc), 0);
            for (int other = 0; other < 40; other++) {
                if (other != doc) {
                    checks.due("places(" + other + ") without " + doc, x.places(other), 1);
                }
            }
        }
    }

    /** "Refused, NONE, when no document waits." */
    private static void flushNeedsOneThatWaits(Checks checks) {
        MorphIndex x = Checks.drafted(65);
        checks.due("flush() of a new object", x.flush(), -1);
        checks.dueSegments("no segment", x);
        x.add();
        checks.due("flush() of one", x.flush(), 1);
        checks.due("flush() again", x.flush(), -1);
        checks.dueSegments("one segment", x, 1);
        x.add();
        x.add();
        x.drop(1);
        x.drop(2);
        checks.due("flush() of two dropped ones", x.flush(), -1);
        checks.dueSegments("still one segment", x, 1);
        addFlushed(x, 1);
        addFlushed(x, 1);
        checks.due("flush() of none beside three segments", x.flush(), -1);
        checks.dueSegments("no merge", x, 1, 1, 1);
    }

    /** "all that wait come into a new segment at the end of the row" */
    private static void flushTakes1To4(Checks checks) {
        MorphIndex x = Checks.drafted(65);
        int[] sizes = {3, 4, 2};
        for (int i = 0; i < sizes.length; i++) {
            for (int times = 0; times < sizes[i]; times++) {
                x.add();
            }
            checks.due("segments before flush() " + i, x.segment(-1), i);
            checks.due("flush() of " + sizes[i], x.flush(), sizes[i]);
            checks.due("the last segment", x.segment(i), sizes[i]);
        }
        checks.dueSegments("in their order", x, 3, 4, 2);
    }

    /** "Answers how many postings the new segment has": 0 where all terms are dropped, which is no refusal. */
    private static void flushAnswersTheNewSegmentsPostings(Checks checks) {
        MorphIndex x = Checks.drafted(Checks.repeated(65, 24));
        for (int i = 0; i < 4; i++) {
            x.add();
        }
        checks.due("flush() of the most", x.flush(), 96);
        x.chain(0, 1);
        x.add();
        checks.due("flush() of no postings", x.flush(), 0);
        checks.dueSegments("a segment without postings", x, 4, 1);
        x.add();
        x.chain(-1, 0);
        Checks.addDraft(x, 65);
        checks.due("flush() of none and one", x.flush(), 1);
        checks.dueSegments("without a merge", x, 4, 1, 2);
    }

    /** "If the row has four segments then, two neighbours are merged": three are left as they are. */
    private static void mergesFromFourSegmentsOn(Checks checks) {
        MorphIndex x = Checks.drafted(65);
        addFlushed(x, 1);
        checks.dueSegments("one", x, 1);
        addFlushed(x, 1);
        checks.dueSegments("two", x, 1, 1);
        x.add();
        checks.due("flush() of the third", x.flush(), 1);
        checks.dueSegments("three", x, 1, 1, 1);
        x.add();
        checks.due("flush() of the fourth", x.flush(), 1 + 2);
        checks.dueSegments("four are three", x, 2, 1, 1);
        x.add();
        checks.due("flush() of the fifth", x.flush(), 1 + 2);
        checks.dueSegments("four are three again", x, 2, 2, 1);
    }

    /** "those in which together the fewest documents lie": each of the three pairs, by one document. */
    private static void mergesTheFewest(Checks checks) {
        int[][][] rows = {
            {{1, 1, 2, 1}, {2, 2, 1}}, {{2, 1, 1, 2}, {2, 2, 2}}, {{2, 2, 1, 1}, {2, 2, 2}},
            {{1, 2, 4, 1}, {3, 4, 1}}, {{4, 2, 1, 4}, {4, 3, 4}}, {{4, 4, 4, 3}, {4, 4, 7}},
            {{4, 3, 4, 4}, {7, 4, 4}}, {{4, 4, 3, 4}, {4, 7, 4}}, {{1, 4, 1, 3}, {1, 4, 4}},
            {{3, 1, 4, 1}, {4, 4, 1}}, {{4, 1, 3, 2}, {4, 4, 2}}};
        for (int[][] row : rows) {
            MorphIndex x = Checks.drafted(65);
            for (int size : row[0]) {
                addFlushed(x, size);
            }
            checks.dueSegments("a merge of " + java.util.Arrays.toString(row[0]), x, row[1]);
        }
    }

    /** "the fewest documents": however many postings they have. */
    private static void mergesByDocumentsNotPostings(Checks checks) {
        MorphIndex x = Checks.drafted(65);
        addFlushed(x, 2);
        addFlushed(x, 2);
        Checks.draft(x, Checks.repeated(65, 24));
        addFlushed(x, 1);
        x.add();
        checks.due("flush() that merges 48 postings", x.flush(), 24 + 48);
        checks.dueSegments("the fewest documents", x, 2, 2, 2);
    }

    /** "the foremost such two of several" */
    private static void mergesTheForemostOfEquals(Checks checks) {
        int[][][] rows = {
            {{1, 1, 1, 1}, {2, 1, 1}}, {{2, 2, 2, 2}, {4, 2, 2}}, {{1, 2, 1, 2}, {3, 1, 2}},
            {{1, 2, 1, 3}, {3, 1, 3}}, {{3, 1, 2, 1}, {3, 3, 1}}, {{1, 2, 2, 1}, {3, 2, 1}},
            {{4, 4, 4, 4}, {8, 4, 4}}};
        for (int[][] row : rows) {
            MorphIndex x = Checks.drafted(65);
            for (int size : row[0]) {
                addFlushed(x, size);
            }
            checks.dueSegments("equals of " + java.util.Arrays.toString(row[0]), x, row[1]);
        }
    }

    /** "(dropped ones that still lie there counted too)": they count for the choice. */
    private static void mergesByDroppedOnesToo(Checks checks) {
        MorphIndex x = Checks.drafted(65, 66);
        addFlushed(x, 3);
        addFlushed(x, 3);
        addFlushed(x, 2);
        for (int doc = 0; doc < 5; doc++) {
            x.drop(doc);
        }
        checks.dueSegments("dropped ones still lie there", x, 3, 3, 2);
        x.add();
        checks.due("flush() that merges the last two", x.flush(), 2 + 6);
        checks.dueSegments("the last two were the fewest", x, 3, 3, 3);
        checks.due("open()", x.open(), 4);
    }

    /** "one segment with the documents of both that are not dropped": one left of them is enough. */
    private static void mergesWithoutDroppedOnes(Checks checks) {
        for (int left = 0; left < 4; left++) {
            MorphIndex x = Checks.drafted(65, 66, 67);
            addFlushed(x, 2);
            addFlushed(x, 2);
            addFlushed(x, 4);
            for (int doc = 0; doc < 4; doc++) {
                if (doc != left) {
                    x.drop(doc);
                }
            }
            for (int i = 0; i < 4; i++) {
                x.add();
            }
            checks.due("flush() that leaves " + left, x.flush(), 12 + 3);
            checks.dueSegments("left is " + left, x, 1, 4, 4);
            x.open();
            checks.due("places(" + left + ")", x.places(left), 1);
            checks.due("match(0)", x.match(0), left);
        }
    }

    /** "or, if there is none such, no segment": two are left, and the next flush merges nothing. */
    private static void mergesToNothing(Checks checks) {
        for (int pair = 0; pair < 3; pair++) {
            MorphIndex x = Checks.drafted(65, 66);
            int[] sizes = {2, 2, 2, 2};
            sizes[pair] = 1;
            sizes[pair + 1] = 1;
            int first = 0;
            for (int i = 0; i < 3; i++) {
                addFlushed(x, sizes[i]);
                first += i < pair ? sizes[i] : 0;
            }
            x.drop(first);
            if (pair < 2) {
                x.drop(first + 1);
            }
            for (int i = 0; i < sizes[3]; i++) {
                x.add();
            }
            // The new segment's documents are not dropped, so a pair with it never merges to nothing.
            checks.due("flush() that merges pair " + pair, x.flush(), pair < 2 ? 4 : 2 + 2);
            if (pair < 2) {
                checks.dueSegments("pair " + pair + " is gone", x, 2, 2);
                x.add();
                checks.due("flush() beside two", x.flush(), 2);
                checks.dueSegments("three again", x, 2, 2, 1);
            } else {
                checks.dueSegments("the last pair is not gone", x, 2, 2, 1);
            }
        }
    }

    /** "and, if two were merged, those of what came in their place besides": the new one may be one of the two. */
    private static void mergesTheNewSegment(Checks checks) {
        MorphIndex x = Checks.drafted(65, 66, 67);
        addFlushed(x, 4);
        addFlushed(x, 3);
        Checks.addDraft(x, 65);
        Checks.addDraft(x, 65);
        checks.due("flush() of two", x.flush(), 2);
        Checks.addDraft(x, 65, 66, 67, 68, 69);
        x.drop(7);
        checks.due("flush() of five postings, and six merged", x.flush(), 5 + 6);
        checks.dueSegments("the new one is merged", x, 4, 3, 2);
    }

    /** "equal pairs count once": equal terms at one position; at two positions they are two pairs. */
    private static void equalPairsCountOnce(Checks checks) {
        MorphIndex x = Checks.drafted(65, 65);
        x.add();
        checks.due("one term at two positions", x.flush(), 2);
        Checks.draft(x, 65, 65, 65);
        x.rule(1, 5, 1, 1);
        x.word(2, 0, 0, -1);
        x.mode(10000, 0);
        checks.due("the compound", x.token(0, 4), 3);
        x.add();
        checks.due("three tokens and the compound", x.flush(), 4);
        Checks.enter(x, 3, 5000, 65);
        Checks.draft(x, 66, 65, 65);
        x.word(2, 0, 0, 1);
        checks.due("a compound with a base", x.token(0, 4), 3);
        x.chain(1, 0);
        x.add();
        checks.due("its term is not the first token's", x.flush(), 4);
        Checks.draft(x, 65, 66, 66);
        x.word(2, 0, 0, 1);
        checks.due("another compound with a base", x.token(0, 4), 3);
        x.add();
        checks.due("its term is the first token's, and two and four are merged", x.flush(), 3 + 6);
    }

    /** "worked out when it is added and never changed" */
    private static void postingsStayAsTheyWere(Checks checks) {
        MorphIndex x = Checks.drafted(65, 66);
        x.add();
        x.word(2, -9, 0, -1);
        x.chain(0, 1);
        x.type(0);
        checks.due("flush() of the postings of then", x.flush(), 2);
        x.open();
        x.chain(-1, 0);
        Checks.draft(x, 65);
        checks.due("the token of then", x.places(0), 1);
        Checks.draft(x, 65, 66);
        checks.due("the token of now", x.places(0), 0);
    }

    /** "With i = -1 the number of segments", "NONE when there is no segment i." */
    private static void segmentNumbersAreThoseOfSegments(Checks checks) {
        MorphIndex x = Checks.drafted(65);
        for (int count = 0; count <= 3; count++) {
            checks.due("segment(-1) of " + count, x.segment(-1), count);
            for (int i = 0; i < count; i++) {
                checks.due("segment(" + i + ") of " + count, x.segment(i), i + 1);
            }
            for (int i : new int[] {-2, count, count + 1, 3, 4, Integer.MIN_VALUE, Integer.MAX_VALUE}) {
                checks.due("segment(" + i + ") of " + count, x.segment(i), -1);
            }
            for (int i = 0; i <= count && count < 3; i++) {
                x.add();
            }
            x.flush();
        }
    }
}
