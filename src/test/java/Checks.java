/** Counts the answers of one test that are not as due; a test ends with finish(). */
final class Checks {
    private int made = 0;
    private int wrong = 0;

    void due(String call, long got, long want) {
        made++;
        if (got != want) {
            wrong++;
            System.out.println(call + " answered " + got + ", due is " + want);
        }
    }

    void due(String call, boolean got, boolean want) {
        due(call, got ? 1 : 0, want ? 1 : 0);
    }

    void finish() {
        System.out.println(made + " answers, " + wrong + " not as due");
        if (wrong != 0 || made == 0) {
            System.exit(1);
        }
    }

    /** A text of at most 8 characters as a long. */
    static long text(int... characters) {
        long text = 0;
        for (int i = 0; i < characters.length; i++) {
            text |= (long) characters[i] << (8 * i);
        }
        return text;
    }

    /** The draft becomes these characters, of any number up to 24. */
    static void draft(MorphIndex x, int... characters) {
        x.type(0);
        for (int from = 0; from < characters.length; from += 8) {
            int to = Math.min(from + 8, characters.length);
            x.type(text(java.util.Arrays.copyOfRange(characters, from, to)));
        }
    }

    static int[] repeated(int character, int times) {
        int[] characters = new int[times];
        java.util.Arrays.fill(characters, character);
        return characters;
    }
}
