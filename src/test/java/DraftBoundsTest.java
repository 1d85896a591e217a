/** The limits of the draft: promise 2, and what 'Terms' says of characters, texts and the draft. */
public final class DraftBoundsTest {
    private static final int[] EIGHT = {11, 12, 13, 14, 15, 16, 17, 18};

    public static void main(String[] args) {
        Checks checks = new Checks();
        takesCharacters1To255(checks);
        classesChangeAt64(checks);
        takesUpToEightBytes(checks);
        stopsAtTheFirstZeroByte(checks);
        refusesALowestByteOfZero(checks);
        holdsAtMost24(checks);
        countsNoBytesAboveAZero(checks);
        refusesAllOrTakesAll(checks);
        emptiesAnyDraft(checks);
        typeAloneChangesTheDraft(checks);
        checks.finish();
    }

    /** "CHARACTERS are the numbers 1 .. 255" */
    private static void takesCharacters1To255(Checks checks) {
        for (int c = 1; c <= 255; c++) {
            MorphIndex x = new MorphIndex();
            checks.due("type(" + c + ")", x.type(c), true);
            checks.due("tokens() of " + c, x.tokens(), 1);
            checks.due("term(0) of " + c, x.term(0), c);
        }
        MorphIndex x = new MorphIndex();
        checks.due("type(256)", x.type(256), false);
        checks.due("type(257) is of one character", x.type(257), true);
        checks.due("term(0) of 257", x.term(0), 1);
        checks.due("term(1) of 257", x.term(1), 1);
    }

    /** "the CLASS of a character c is c / 64 (0 .. 3)" */
    private static void classesChangeAt64(Checks checks) {
        int[][] edges = {{1, 0}, {63, 0}, {64, 1}, {127, 1}, {128, 2}, {191, 2}, {192, 3}, {255, 3}};
        for (int[] edge : edges) {
            MorphIndex x = Checks.drafted(edge[0]);
            checks.due("class of " + edge[0], x.token(0, 3), 100 + edge[1]);
        }
    }

    /** "the characters are the bytes of s from the lowest on, up to the first zero byte or all eight" */
    private static void takesUpToEightBytes(Checks checks) {
        MorphIndex x = new MorphIndex();
        checks.due("type of eight", x.type(Checks.text(EIGHT)), true);
        checks.due("tokens() of eight", x.tokens(), 8);
        for (int i = 0; i < 8; i++) {
            checks.due("term(" + i + ") of eight", x.term(i), EIGHT[i]);
        }
        x = new MorphIndex();
        checks.due("type(-1), eight of 255", x.type(-1L), true);
        checks.due("tokens() of type(-1)", x.tokens(), 8);
        checks.due("term(0) of type(-1)", x.term(0), 255);
        checks.due("term(7) of type(-1)", x.term(7), 255);
        x = new MorphIndex();
        checks.due("type(Long.MIN_VALUE + 1)", x.type(Long.MIN_VALUE + 1), true);
        checks.due("tokens() of type(Long.MIN_VALUE + 1)", x.tokens(), 1);
        checks.due("term(0) of type(Long.MIN_VALUE + 1)", x.term(0), 1);
    }

    /** "up to the first zero byte .. (bytes above the first zero byte do not count)" */
    private static void stopsAtTheFirstZeroByte(Checks checks) {
        for (int zero = 1; zero < 8; zero++) {
            MorphIndex x = new MorphIndex();
            long s = Checks.text(EIGHT) & ~(255L << (8 * zero));
            checks.due("type with byte " + zero + " zero", x.type(s), true);
            checks.due("tokens() with byte " + zero + " zero", x.tokens(), zero);
            checks.due("last term with byte " + zero + " zero", x.term(zero - 1), EIGHT[zero - 1]);
            checks.due("no term with byte " + zero + " zero", x.term(zero), 0);
            x.type(99);
            checks.due("the next is put behind them", x.term(zero), 99);
        }
    }

    /** "refused, false, when there is none (the lowest byte is 0)" */
    private static void refusesALowestByteOfZero(Checks checks) {
        long[] wrong = {256, Checks.text(0, 65), Checks.text(0, 65, 66, 67, 68, 69, 70, 71), -256L,
            Long.MIN_VALUE, 1L << 32};
        for (long s : wrong) {
            MorphIndex x = new MorphIndex();
            checks.due("type(" + s + ") of the empty draft", x.type(s), false);
            checks.due("tokens() after it", x.tokens(), 0);
            x = Checks.drafted(65, 66);
            checks.due("type(" + s + ") of a draft", x.type(s), false);
            checks.due("tokens() of the draft after it", x.tokens(), 2);
            checks.due("term(1) of the draft after it", x.term(1), 66);
        }
    }

    /** "The DRAFT is a list of at most 24 characters", "refused .. the draft would have more than 24" */
    private static void holdsAtMost24(Checks checks) {
        for (int size = 15; size <= 24; size++) {
            for (int more = 1; more <= 8; more++) {
                MorphIndex x = Checks.drafted(Checks.repeated(65, size));
                boolean fits = size + more <= 24;
                String name = "type of " + more + " behind " + size;
                checks.due(name, x.type(Checks.text(Checks.repeated(130, more))), fits);
                checks.due("tokens() after " + name, x.tokens(), fits ? size + more : size);
                checks.due("term behind the old draft after " + name, x.term(size), fits ? 130 : 0);
                checks.due("last term after " + name, x.term(size - 1), 65);
            }
        }
    }

    /** "(bytes above the first zero byte do not count)": for the 24 neither. */
    private static void countsNoBytesAboveAZero(Checks checks) {
        MorphIndex x = Checks.drafted(Checks.repeated(65, 23));
        checks.due("type of one and bytes above a zero", x.type(Checks.text(66, 0, 67, 68, 69)), true);
        checks.due("tokens() then", x.tokens(), 24);
        checks.due("term(23) then", x.term(23), 66);
    }

    /** "A call that is refused changes nothing.": none of the characters that would fit is put. */
    private static void refusesAllOrTakesAll(Checks checks) {
        MorphIndex x = Checks.drafted(Checks.repeated(65, 20));
        checks.due("type of five behind 20", x.type(Checks.text(1, 2, 3, 4, 5)), false);
        checks.due("tokens() after five", x.tokens(), 20);
        checks.due("type of four behind 20", x.type(Checks.text(6, 7, 8, 9)), true);
        checks.due("term(20) after four", x.term(20), 6);
        checks.due("term(23) after four", x.term(23), 9);
        checks.due("type of one behind 24", x.type(1), false);
        checks.due("tokens() after one", x.tokens(), 24);
    }

    /** "With s = 0 the draft becomes empty: true." */
    private static void emptiesAnyDraft(Checks checks) {
        for (int size = 0; size <= 24; size++) {
            MorphIndex x = Checks.drafted(Checks.repeated(200, size));
            checks.due("type(0) of " + size, x.type(0), true);
            checks.due("tokens() after type(0) of " + size, x.tokens(), 0);
            checks.due("nodes() after type(0) of " + size, x.nodes(), 0);
            checks.due("type of eight after type(0) of " + size, x.type(Checks.text(EIGHT)), true);
            checks.due("tokens() of the new draft", x.tokens(), 8);
            checks.due("term(0) of the new draft", x.term(0), 11);
        }
    }

    /** "type() alone changes it" */
    private static void typeAloneChangesTheDraft(Checks checks) {
        MorphIndex x = Checks.drafted(65, 130, 200);
        x.word(1, 9000, 0, -1);
        x.rule(1, 5, 2, 5);
        x.link(1, 1, 3);
        x.mode(1, 2);
        x.chain(0, 7);
        x.chain(-1, 0);
        x.add();
        x.flush();
        x.open();
        x.match(0);
        x.places(0);
        x.segment(-1);
        x.paths();
        x.nodes();
        x.drop(0);
        x.type(1);
        int[] due = {65, 130, 200, 1};
        for (int i = 0; i < due.length; i++) {
            checks.due("term(" + i + ") after every other call", x.term(i), due[i]);
        }
        checks.due("tokens() after every other call", x.tokens(), 4);
    }
}
