import java.util.Arrays;
import java.util.function.IntPredicate;

/** Counts the answers of one test that are not as due; a test ends with finish(). */
final class Checks {
    private int made = 0;
    private int wrong = 0;

    void due(String call, long got, long want) {
        made++;
        if (got != want) {
            wrong++;
            System.out.println(call + " answered " + got + ", due is " + want);
        }
    }

    void due(String call, boolean got, boolean want) {
        due(call, got ? 1 : 0, want ? 1 : 0);
    }

    /** On both sides of each limit: the last values that are taken and the first that are refused. */
    void dueRange(String name, int least, int most, IntPredicate taken) {
        for (int value : new int[] {least, least + 1, most - 1, most}) {
            due(name + " " + value + " is taken", taken.test(value), true);
        }
        for (int value : new int[] {least - 1, most + 1, Integer.MIN_VALUE, Integer.MAX_VALUE}) {
            due(name + " " + value + " is taken", taken.test(value), false);
        }
    }

    /** The answers of token(i, 0), token(i, 1), .. */
    void dueToken(String name, MorphIndex x, int i, int... due) {
        for (int what = 0; what < due.length; what++) {
            due(name + ": token(" + i + ", " + what + ")", x.token(i, what), due[what]);
        }
    }

    /** The lengths of all tokens, in their order. */
    void dueLengths(String name, MorphIndex x, int... lengths) {
        due(name + ": tokens()", x.tokens(), lengths.length);
        for (int i = 0; i < lengths.length; i++) {
            due(name + ": token(" + i + ", 1)", x.token(i, 1), lengths[i]);
        }
    }

    /** The sizes of all segments, in their order. */
    void dueSegments(String name, MorphIndex x, int... sizes) {
        due(name + ": segment(-1)", x.segment(-1), sizes.length);
        for (int i = 0; i < sizes.length; i++) {
            due(name + ": segment(" + i + ")", x.segment(i), sizes[i]);
        }
        due(name + ": none behind", x.segment(sizes.length), -1);
    }

    void finish() {
        System.out.println(made + " answers, " + wrong + " not as due");
        if (wrong != 0 || made == 0) {
            System.exit(1);
        }
    }

    /** A text of at most 8 characters as a long. */
    static long text(int... characters) {
        long text = 0;
        for (int i = 0; i < characters.length; i++) {
            text |= (long) characters[i] << (8 * i);
        }
        return text;
    }

    /** The draft becomes these characters, of any number up to 24. */
    static void draft(MorphIndex x, int... characters) {
        x.type(0);
        for (int from = 0; from < characters.length; from += 8) {
            int to = Math.min(from + 8, characters.length);
            x.type(text(Arrays.copyOfRange(characters, from, to)));
        }
    }

    /** A new object whose draft is these characters. */
    static MorphIndex drafted(int... characters) {
        MorphIndex x = new MorphIndex();
        draft(x, characters);
        return x;
    }

    /** The draft becomes this surface and a new entry without cuts and base: its number. */
    static int enter(MorphIndex x, int part, int cost, int... surface) {
        draft(x, surface);
        return x.word(part, cost, 0, -1);
    }

    /** The draft becomes these characters and a new document: its number. */
    static int addDraft(MorphIndex x, int... characters) {
        draft(x, characters);
        return x.add();
    }

    static int[] repeated(int character, int times) {
        int[] characters = new int[times];
        Arrays.fill(characters, character);
        return characters;
    }
}
