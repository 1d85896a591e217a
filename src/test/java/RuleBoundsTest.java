/** The limits of the rules and of the nodes: promises 4 and 10, and what 'Terms' says of rules and nodes. */
public final class RuleBoundsTest {
    private static final int[] FIRST_OF_CLASS = {1, 64, 128, 192};
    private static final int[] LAST_OF_CLASS = {63, 127, 191, 255};

    public static void main(String[] args) {
        Checks checks = new Checks();
        classIs0To3(checks);
        flagsAre0To19(checks);
        partIs1To7(checks);
        costIsWithin10000(checks);
        lengthIs0To4(checks);
        everyFlagIsRead(checks);
        runEndsWithItsClass(checks);
        runHasAtMost8(checks);
        runEndsWithTheDraft(checks);
        lengthIsNotLongerThanTheRun(checks);
        lengthAndRunGiveOneNode(checks);
        unknownStandsInForNone(checks);
        knownKeepsUnknownOutUnlessInvoked(checks);
        knownEndsWithinTheDraft(checks);
        everyPlaceHasNodes(checks);
        emptyDraftHasNone(checks);
        checks.finish();
    }

    private static MorphIndex ruled(int k, int flags, int part, int cost, int... characters) {
        MorphIndex x = new MorphIndex();
        x.rule(k, flags, part, cost);
        Checks.draft(x, characters);
        return x;
    }

    /** "refused, false, when k is not 0 .. 3" */
    private static void classIs0To3(Checks checks) {
        checks.dueRange("rule of class", 0, 3, k -> {
            MorphIndex x = new MorphIndex();
            boolean taken = x.rule(k, 2, 5, 7);
            for (int other = 0; other < 4; other++) {
                Checks.draft(x, Checks.repeated(FIRST_OF_CLASS[other], 3));
                boolean set = taken && other == k;
                checks.due("tokens of class " + other + " after rule of " + k, x.tokens(), set ? 1 : 3);
                checks.due("part of class " + other + " after rule of " + k, x.token(0, 2), set ? 5 : 1);
                checks.due("cost of class " + other + " after rule of " + k, x.cost(), set ? 7 : 0);
            }
            return taken;
        });
    }

    /** "flags not 0 .. 19" */
    private static void flagsAre0To19(Checks checks) {
        checks.dueRange("rule of flags", 0, 19, flags -> {
            MorphIndex x = Checks.drafted(Checks.repeated(65, 8));
            boolean taken = x.rule(1, flags, 5, 7);
            checks.due("part after rule of flags " + flags, x.token(0, 2), taken ? 5 : 1);
            checks.due("nodes refused after rule of flags " + flags, !taken && x.nodes() != 8, false);
            return taken;
        });
    }

    /** "part not 1 .. 7" */
    private static void partIs1To7(Checks checks) {
        checks.dueRange("rule of part", 1, 7, part -> {
            MorphIndex x = Checks.drafted(65);
            boolean taken = x.rule(1, 0, part, 7);
            checks.due("part after rule of part " + part, x.token(0, 2), taken ? part : 1);
            checks.due("cost after rule of part " + part, x.cost(), taken ? 7 : 0);
            return taken;
        });
    }

    /** "or cost not as said": -10000 .. 10000 */
    private static void costIsWithin10000(Checks checks) {
        checks.dueRange("rule of cost", -10000, 10000, cost -> {
            MorphIndex x = Checks.drafted(65);
            boolean taken = x.rule(1, 0, 4, cost);
            checks.due("cost after rule of cost " + cost, x.cost(), taken ? cost : 0);
            checks.due("part after rule of cost " + cost, x.token(0, 2), taken ? 4 : 1);
            return taken;
        });
    }

    /** "a LENGTH 0 .. 4", "LENGTH flags / 4": nodes of 8 of one class, without GROUP and with it. */
    private static void lengthIs0To4(Checks checks) {
        int[] alone = {8, 8, 15, 21, 26};
        int[] grouped = {8, 15, 21, 26, 30};
        for (int length = 0; length <= 4; length++) {
            for (int k = 0; k < 4; k++) {
                int[] draft = Checks.repeated(LAST_OF_CLASS[k], 8);
                checks.due("nodes of length " + length, ruled(k, 4 * length, 1, 1, draft).nodes(), alone[length]);
                checks.due("nodes of length " + length + " and group",
                    ruled(k, 4 * length + 2, 1, 1, draft).nodes(), grouped[length]);
            }
        }
    }

    /** "INVOKE if flags has 1, GROUP if it has 2": a known node of length 1 stands at each of the 8 places. */
    private static void everyFlagIsRead(Checks checks) {
        int[] invoked = {0, 8, 15, 21, 26};
        int[] both = {8, 15, 21, 26, 30};
        for (int flags = 0; flags < 20; flags++) {
            MorphIndex x = new MorphIndex();
            Checks.enter(x, 1, 0, 65);
            x.rule(1, flags, 1, 0);
            Checks.draft(x, Checks.repeated(65, 8));
            int length = flags / 4;
            int unknown = flags % 2 == 0 ? 0 : flags % 4 == 3 ? both[length] : invoked[length];
            checks.due("nodes of flags " + flags, x.nodes(), 8 + unknown);
        }
    }

    /** "The RUN at p is that character and those behind it as long as they are of the same class" */
    private static void runEndsWithItsClass(Checks checks) {
        for (int k = 0; k < 4; k++) {
            MorphIndex x = ruled(k, 2, 1, 1, FIRST_OF_CLASS[k], LAST_OF_CLASS[k], FIRST_OF_CLASS[k]);
            checks.dueLengths("a run of class " + k, x, 3);
            for (int other = 0; other < 4; other++) {
                if (other != k) {
                    int c = other < k ? LAST_OF_CLASS[other] : FIRST_OF_CLASS[other];
                    x = ruled(k, 2, 1, 1, FIRST_OF_CLASS[k], LAST_OF_CLASS[k], c, FIRST_OF_CLASS[k]);
                    checks.dueLengths("a run of class " + k + " before " + other, x, 2, 1, 1);
                }
            }
        }
    }

    /** "at most 8 in all" */
    private static void runHasAtMost8(Checks checks) {
        checks.dueLengths("a run of 7", ruled(1, 2, 1, 1, Checks.repeated(65, 7)), 7);
        checks.dueLengths("a run of 8", ruled(1, 2, 1, 1, Checks.repeated(65, 8)), 8);
        MorphIndex x = ruled(1, 2, 1, 1, Checks.repeated(65, 9));
        checks.due("nodes of a run of 9", x.nodes(), 9);
        checks.due("cost of a run of 9", x.cost(), 2);
        checks.due("paths of a run of 9", x.paths(), 1);
        checks.dueLengths("a run of 9", x, 8, 1);
        checks.dueLengths("a run of 16", ruled(1, 2, 1, 1, Checks.repeated(65, 16)), 8, 8);
        checks.dueLengths("a run of 17", ruled(1, 2, 1, 1, Checks.repeated(65, 17)), 8, 8, 1);
        checks.dueLengths("a run of 24", ruled(1, 2, 1, 1, Checks.repeated(65, 24)), 8, 8, 8);
    }

    private static void runEndsWithTheDraft(Checks checks) {
        MorphIndex x = ruled(1, 2, 1, 1, Checks.repeated(65, 8));
        Checks.draft(x, 65, 65);
        checks.dueLengths("a run of 2 after a draft of 8", x, 2);
        checks.due("nodes of a run of 2", x.nodes(), 2);
    }

    /** "one of each of the lengths 1 .. LENGTH that is not longer than the run" */
    private static void lengthIsNotLongerThanTheRun(Checks checks) {
        int[] nodesOfLength4 = {1, 3, 6, 10, 14};
        for (int run = 1; run <= 5; run++) {
            int[] draft = Checks.repeated(65, run + 1);
            draft[run] = 1;
            MorphIndex x = ruled(1, 16, 1, 1, draft);
            checks.due("nodes of length 4 in a run of " + run, x.nodes(), nodesOfLength4[run - 1] + 1);
            checks.due("cost of length 4 in a run of " + run, x.cost(), run <= 4 ? 1 : 2);
        }
    }

    /** "a length that comes up both ways gives one node, not two" */
    private static void lengthAndRunGiveOneNode(Checks checks) {
        for (int run = 1; run <= 5; run++) {
            for (int length = 0; length <= 4; length++) {
                MorphIndex x = ruled(1, 4 * length + 2, 1, 0, Checks.repeated(65, run));
                MorphIndex same = ruled(1, 16, 1, 0, Checks.repeated(65, run));
                if (run <= length) {
                    checks.due("nodes of run " + run + " and length " + length, x.nodes(), run * (run + 1) / 2);
                    checks.due("paths of run " + run + " and length " + length, x.paths(), 1L << (run - 1));
                    checks.due("as without group", same.nodes(), run * (run + 1) / 2);
                }
            }
        }
        checks.due("nodes of run 5 and length 4", ruled(1, 18, 1, 0, Checks.repeated(65, 5)).nodes(), 15);
    }

    /** "If all this gives no node at p, known or unknown, there is one unknown node of length 1." */
    private static void unknownStandsInForNone(Checks checks) {
        for (int invoke = 0; invoke < 2; invoke++) {
            MorphIndex x = ruled(1, invoke, 3, 4, 65, 66, 67);
            checks.due("nodes of neither group nor length", x.nodes(), 3);
            checks.dueLengths("neither group nor length", x, 1, 1, 1);
            checks.dueToken("neither group nor length", x, 2, 2, 1, 3, 101, 0);
            checks.due("cost of neither group nor length", x.cost(), 12);
        }
        MorphIndex x = ruled(1, 1, 3, 4);
        Checks.enter(x, 2, 9, 65);
        checks.due("a known node with INVOKE alone", x.nodes(), 1);
        x.rule(1, 0, 3, 4);
        checks.due("a known node with no rule", x.nodes(), 1);
        checks.due("the known node is the path", x.cost(), 9);
    }

    /** "If there is no known node at p or the rule has INVOKE" */
    private static void knownKeepsUnknownOutUnlessInvoked(Checks checks) {
        MorphIndex x = new MorphIndex();
        Checks.enter(x, 2, 9, 65, 66);
        Checks.draft(x, 65, 66, 65);
        x.rule(1, 4, 1, 0);
        checks.due("known at place 0 alone", x.nodes(), 1 + 1 + 1);
        checks.due("the dear known one is the path", x.cost(), 9);
        x.rule(1, 5, 1, 0);
        checks.due("invoked at place 0 too", x.nodes(), 2 + 1 + 1);
        checks.due("the cheap unknown ones are the path", x.cost(), 0);
        x.rule(1, 6, 1, 0);
        checks.due("group and length at places 1 and 2", x.nodes(), 1 + 2 + 1);
        x.rule(1, 7, 1, 0);
        checks.due("group and length at all places", x.nodes(), 3 + 2 + 1);
        x.rule(1, 4, 1, 0);
        for (int other = 0; other < 4; other++) {
            if (other != 1) {
                x.rule(other, 19, 1, 0);
            }
        }
        checks.due("INVOKE of other classes", x.nodes(), 1 + 1 + 1);
    }

    /** "one for each entry whose surface stands in the draft from p on" */
    private static void knownEndsWithinTheDraft(Checks checks) {
        for (int length = 1; length <= 8; length++) {
            MorphIndex x = new MorphIndex();
            Checks.enter(x, 2, -9, Checks.repeated(255, length));
            checks.dueToken("the whole draft of " + length, x, 0, 0, length, 2, 0, 0);
            Checks.draft(x, Checks.repeated(255, length - 1));
            checks.due("nodes of one character less than " + length, x.nodes(), length - 1);
            checks.due("cost of one character less than " + length, x.cost(), 0);
            Checks.draft(x, Checks.repeated(255, 24));
            checks.due("cost of as many as fit into 24", x.cost(), -9 * (24 / length));
            int[] ending = Checks.repeated(255, length + 1);
            ending[0] = 254;
            Checks.draft(x, ending);
            checks.dueToken("at the end of the draft", x, 1, 1, length, 2, 0, 0);
            ending[length] = 254;
            Checks.draft(x, ending);
            checks.due("cost when the last character is another", x.cost(), 0);
        }
    }

    /** "For every place p of the draft (whether or not it is reached from the beginning)" */
    private static void everyPlaceHasNodes(Checks checks) {
        MorphIndex x = new MorphIndex();
        Checks.enter(x, 2, 9, Checks.repeated(65, 8));
        checks.due("known at place 0, unknown at 7 more", x.nodes(), 8);
        checks.due("one path", x.paths(), 1);
        checks.due("of one node", x.tokens(), 1);
        Checks.enter(x, 3, -9, 65, 65);
        x.rule(1, 2, 1, 0);
        Checks.draft(x, 1, 65, 65);
        x.rule(0, 0, 1, 0);
        checks.due("nodes of a reached place", x.nodes(), 1 + 1 + 1);
        Checks.draft(x, 66, 65, 65);
        checks.due("nodes of an unreached place", x.nodes(), 1 + 1 + 1);
        checks.due("cost without the unreached node", x.cost(), 0);
    }

    private static void emptyDraftHasNone(Checks checks) {
        MorphIndex x = ruled(1, 19, 1, 0);
        checks.due("nodes of the empty draft", x.nodes(), 0);
        x.type(65);
        checks.due("nodes of one character", x.nodes(), 1);
        x.type(0);
        checks.due("nodes of the emptied draft", x.nodes(), 0);
    }
}
