/** The limits of tokens: promises 11 and 12, and what 'Terms' says of the best path, tokens and compounds. */
public final class TokenBoundsTest {
    public static void main(String[] args) {
        Checks checks = new Checks();
        tokensAre0To24(checks);
        tokenNumbersAreThoseOfTokens(checks);
        emptyDraftHasNoToken(checks);
        whatIs0To4(checks);
        unknownIs100AndTheClass(checks);
        lastEntryIsTold(checks);
        piecesAreCutAtEveryPlace(checks);
        cutNodeAmongOthers(checks);
        equalPathsAreComparedFromTheEnd(checks);
        longerIsTakenFirst(checks);
        knownIsTakenBeforeUnknown(checks);
        lowerEntryIsTaken(checks);
        cheaperIsTakenBeforeAllThese(checks);
        linksChooseEveryNode(checks);
        unreachedNodesAreNeverTaken(checks);
        checks.finish();
    }

    /** "How many tokens the draft has." */
    private static void tokensAre0To24(Checks checks) {
        for (int size = 0; size <= 24; size++) {
            MorphIndex x = Checks.drafted(Checks.repeated(65, size));
            checks.due("tokens of " + size, x.tokens(), size);
        }
    }

    /** "NONE when there is no token i": on both sides of 0 and of the number of tokens. */
    private static void tokenNumbersAreThoseOfTokens(Checks checks) {
        for (int size : new int[] {1, 2, 23, 24}) {
            MorphIndex x = Checks.drafted(Checks.repeated(65, size));
            for (int i : new int[] {0, size - 1}) {
                checks.dueToken("of " + size, x, i, i, 1, 1, 101, 0);
            }
            for (int i : new int[] {-1, size, size + 1, 24, 25, Integer.MIN_VALUE, Integer.MAX_VALUE}) {
                checks.dueToken("of " + size, x, i, -1, -1, -1, -1, -1);
            }
        }
        MorphIndex x = new MorphIndex();
        Checks.enter(x, 1, 0, 65, 66, 67);
        checks.dueToken("a token of three characters", x, 0, 0, 3, 1, 0, 0);
        checks.dueToken("a place is no token", x, 1, -1, -1, -1, -1, -1);
    }

    private static void emptyDraftHasNoToken(Checks checks) {
        MorphIndex x = new MorphIndex();
        checks.dueToken("new", x, 0, -1, -1, -1, -1, -1);
        checks.dueToken("new", x, -1, -1, -1, -1, -1, -1);
        Checks.draft(x, 65, 66);
        checks.due("tokens of two", x.tokens(), 2);
        x.type(0);
        checks.dueToken("emptied", x, 0, -1, -1, -1, -1, -1);
        checks.dueToken("emptied", x, 1, -1, -1, -1, -1, -1);
        checks.due("emptied: tokens()", x.tokens(), 0);
    }

    /** "NONE when .. what is not 0 .. 4" */
    private static void whatIs0To4(Checks checks) {
        MorphIndex x = Checks.drafted(65, 130);
        checks.dueToken("of two", x, 1, 1, 1, 1, 102, 0);
        checks.dueRange("token(1, what) of what", 0, 4, what -> x.token(1, what) != -1);
        checks.dueRange("token(0, what) of what", 0, 4, what -> x.token(0, what) != -1);
        for (int what : new int[] {-1, 0, 4, 5}) {
            checks.due("token(2, " + what + ")", x.token(2, what), -1);
            checks.due("token(-1, " + what + ")", x.token(-1, what), -1);
        }
    }

    /** "or 100 and the class of its first character if it is of an unknown node" */
    private static void unknownIs100AndTheClass(Checks checks) {
        int[] characters = {1, 63, 64, 127, 128, 191, 192, 255};
        MorphIndex x = Checks.drafted(characters);
        for (int i = 0; i < characters.length; i++) {
            checks.due("origin of " + characters[i], x.token(i, 3), 100 + i / 2);
        }
    }

    /** "3 the number of its entry": entry 0 and entry 39. */
    private static void lastEntryIsTold(Checks checks) {
        MorphIndex x = new MorphIndex();
        for (int i = 0; i < 40; i++) {
            Checks.enter(x, 1 + i % 7, 0, 100 + i);
        }
        Checks.draft(x, 100, 139, 140);
        checks.dueToken("entry 0", x, 0, 0, 1, 1, 0, 0);
        checks.dueToken("entry 39", x, 1, 1, 1, 5, 39, 0);
        checks.dueToken("no entry", x, 2, 2, 1, 1, 102, 0);
    }

    /** "(bit i of the set: a piece begins at place i of the surface)": for every set of cuts of every length. */
    private static void piecesAreCutAtEveryPlace(Checks checks) {
        for (int length = 2; length <= 8; length++) {
            for (int cuts = 2; cuts < 1 << length; cuts += 2) {
                MorphIndex x = Checks.drafted(Checks.repeated(65, length));
                x.word(3, 0, cuts, -1);
                String name = "cuts " + cuts + " of " + length;
                checks.due("tokens of " + name, x.tokens(), Integer.bitCount(cuts) + 1);
                int token = 0;
                for (int place = 1; place < length; place++) {
                    if ((cuts >> place) % 2 == 1) {
                        token++;
                        checks.due("begin of a piece of " + name, x.token(token, 0), place);
                        int before = x.token(token - 1, 0) + x.token(token - 1, 1);
                        checks.due("end of the piece before of " + name, before, place);
                    }
                }
                checks.due("end of the last piece of " + name, x.token(token, 0) + x.token(token, 1), length);
            }
        }
    }

    /** "A token has the part and the entry (if any) of its node.": three entries of 8 pieces fill the draft. */
    private static void cutNodeAmongOthers(Checks checks) {
        MorphIndex x = Checks.drafted(1, 2, 3, 4, 5, 6, 7, 8);
        x.word(6, 2, 254, -1);
        Checks.draft(x, 1, 2, 3, 4, 5, 6, 7, 8, 1, 2, 3, 4, 5, 6, 7, 8, 1, 2, 3, 4, 5, 6, 7, 8);
        checks.due("tokens of three in 8 pieces", x.tokens(), 24);
        for (int i = 0; i < 24; i++) {
            checks.dueToken("a piece", x, i, i, 1, 6, 0, 0);
            checks.due("term of a piece", x.term(i), 1 + i % 8);
        }
        checks.due("cost of three nodes", x.cost(), 6);
    }

    /** "compared from their ends backwards, node by node; where they first differ, the one whose node is longer" */
    private static void equalPathsAreComparedFromTheEnd(Checks checks) {
        MorphIndex x = new MorphIndex();
        Checks.enter(x, 1, 0, 65);
        Checks.enter(x, 1, 0, 65, 65);
        for (int size = 1; size <= 24; size++) {
            Checks.draft(x, Checks.repeated(65, size));
            int[] lengths = Checks.repeated(2, (size + 1) / 2);
            lengths[0] = size % 2 == 1 ? 1 : 2;
            checks.dueLengths("equal paths of " + size, x, lengths);
        }
        x = new MorphIndex();
        Checks.enter(x, 1, 0, 65, 65, 65);
        Checks.enter(x, 1, 0, 65);
        Checks.enter(x, 1, 0, 65, 65);
        Checks.draft(x, 65, 65, 65, 65);
        checks.dueLengths("a longer last node", x, 1, 3);
    }

    /** "the one whose node is longer is taken": a longer unknown one before a shorter known one, whatever number. */
    private static void longerIsTakenFirst(Checks checks) {
        MorphIndex x = new MorphIndex();
        Checks.enter(x, 1, 0, 65);
        Checks.enter(x, 2, 0, 66);
        x.rule(1, 3, 3, 0);
        Checks.draft(x, 65, 66);
        checks.due("paths of known and unknown", x.paths(), 3);
        checks.dueToken("the longer unknown one", x, 0, 0, 2, 3, 101, 0);
        Checks.enter(x, 4, 0, 65, 66);
        checks.dueToken("the longer known one of a higher number", x, 0, 0, 2, 4, 2, 0);
    }

    /** "of nodes of equal length a known one before an unknown one" */
    private static void knownIsTakenBeforeUnknown(Checks checks) {
        for (int length = 1; length <= 4; length++) {
            MorphIndex x = new MorphIndex();
            x.rule(1, 17, 2, 0);
            Checks.enter(x, 5, 0, Checks.repeated(65, length));
            checks.dueToken("known of " + length, x, 0, 0, length, 5, 0, 0);
            x.link(5, 0, 1);
            checks.dueToken("unknown of " + length, x, 0, 0, length, 2, 101, 0);
        }
    }

    /** "of known ones that of the lower entry number" */
    private static void lowerEntryIsTaken(Checks checks) {
        MorphIndex x = new MorphIndex();
        Checks.enter(x, 7, 1, 65);
        Checks.enter(x, 6, 1, 65);
        Checks.enter(x, 5, 1, 65);
        checks.due("paths of three equals", x.paths(), 3);
        checks.dueToken("the first of three", x, 0, 0, 1, 7, 0, 0);
        x.link(0, 7, 1);
        checks.dueToken("the second of three", x, 0, 0, 1, 6, 1, 0);
        x.link(0, 6, 1);
        checks.dueToken("the third of three", x, 0, 0, 1, 5, 2, 0);
        x.link(0, 5, 1);
        checks.dueToken("the first of three again", x, 0, 0, 1, 7, 0, 0);
    }

    /** "The BEST path is the one of least cost.": by 1 it goes before length, knowledge and number. */
    private static void cheaperIsTakenBeforeAllThese(Checks checks) {
        MorphIndex x = new MorphIndex();
        Checks.enter(x, 1, 3, 65, 66);
        Checks.enter(x, 2, 1, 65);
        Checks.enter(x, 3, 1, 66);
        Checks.draft(x, 65, 66);
        checks.dueLengths("two cheaper by 1", x, 1, 1);
        x.link(2, 3, 1);
        checks.dueLengths("equal costs", x, 2);
        x.link(0, 1, 1);
        checks.dueLengths("two cheaper by 1 again", x, 1, 1);
        x.link(0, 1, 0);
        x.link(2, 3, 2);
        checks.dueLengths("one cheaper by 1", x, 2);
    }

    /** A dear link between any two neighbours changes the node before it, not only the last one of the path. */
    private static void linksChooseEveryNode(Checks checks) {
        MorphIndex x = new MorphIndex();
        Checks.enter(x, 1, 0, 65);
        Checks.enter(x, 2, 2, 65);
        Checks.enter(x, 3, 0, 66);
        Checks.enter(x, 4, 1, 66);
        Checks.draft(x, 65, 66, 65, 66);
        dueEntries(checks, "no links", x, 0, 2, 0, 2);
        x.link(1, 3, 3);
        dueEntries(checks, "another second behind the first", x, 0, 3, 0, 3);
        x.link(1, 4, 3);
        dueEntries(checks, "another first before the second", x, 1, 2, 1, 2);
        x.link(3, 1, 5);
        x.link(3, 2, 5);
        dueEntries(checks, "another second before the third", x, 1, 3, 1, 2);
    }

    private static void dueEntries(Checks checks, String name, MorphIndex x, int... entries) {
        checks.due(name + ": tokens()", x.tokens(), entries.length);
        for (int i = 0; i < entries.length; i++) {
            checks.due(name + ": token(" + i + ", 3)", x.token(i, 3), entries[i]);
        }
    }

    /** An unreached node is in no path, though a node of the same number was in that of the draft before. */
    private static void unreachedNodesAreNeverTaken(Checks checks) {
        MorphIndex x = new MorphIndex();
        Checks.enter(x, 1, 0, 65, 66);
        Checks.enter(x, 1, 0, 66, 67);
        Checks.enter(x, 1, 0, 67);
        Checks.enter(x, 1, 0, 68);
        Checks.draft(x, 68, 66, 67);
        checks.dueLengths("reached", x, 1, 2);
        Checks.draft(x, 65, 66, 67);
        checks.dueLengths("not reached", x, 2, 1);
        Checks.draft(x, 68, 66, 67);
        checks.dueLengths("reached again", x, 1, 2);
    }
}
