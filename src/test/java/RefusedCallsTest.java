import java.util.ArrayList;
import java.util.List;
import java.util.function.Consumer;
import java.util.function.ToLongFunction;

/**
 * "A call that is refused changes nothing.": two objects are made alike, one of them gets a refused
 * call besides, and then every answer that a caller can ask of the two must be the same. Of the
 * calls that only read, the same holds whatever they answer.
 */
public final class RefusedCallsTest {
    private static final int CALL_LIMIT = 512;

    record State(String name, Consumer<Calls> builder) { }

    record Refusal(String name, long due, ToLongFunction<MorphIndex> call) { }

    /** An object and how often it was called, as the document promises nothing after the 512th call. */
    private static final class Calls {
        private final MorphIndex x = new MorphIndex();
        private final List<Long> answers = new ArrayList<>();
        private int made = 0;

        MorphIndex x() {
            made++;
            return x;
        }

        void keep(long answer) {
            answers.add(answer);
        }

        void keep(boolean answer) {
            keep(answer ? 1 : 0);
        }

        void draft(int... characters) {
            made += 1 + (characters.length + 7) / 8;
            Checks.draft(x, characters);
        }

        void enter(int part, int cost, int cuts, int base, int... surface) {
            draft(surface);
            x().word(part, cost, cuts, base);
        }
    }

    public static void main(String[] args) {
        Checks checks = new Checks();
        State busy = new State("a busy object", RefusedCallsTest::busy);
        State read = new State("a busy object that was read", RefusedCallsTest::busyAndRead);
        for (State state : List.of(busy, read)) {
            compareAll(checks, state, ofABusyObject());
            compareAll(checks, state, readings());
        }
        compareAll(checks, new State("a new object", calls -> { }), ofANewObject());
        compareAll(checks, busyWithDraft(65, 66), ofAFreeSurface());
        compareAll(checks, busyWithDraft(), ofAnEmptyDraft());
        compareAll(checks, busyWithDraft(Checks.repeated(65, 9)), ofALongDraft());
        compareAll(checks, busyWithDraft(Checks.repeated(65, 20)), ofADraftOfTwenty());
        compareAll(checks, new State("a busy object where four wait", RefusedCallsTest::fourWait), ofFourThatWait());
        compareAll(checks, new State("a busy object where none waits", RefusedCallsTest::noneWaits), ofNoneThatWaits());
        compareAll(checks, new State("a full object", RefusedCallsTest::full), ofAFullObject());
        compareAll(checks, new State("a full object with a short draft", RefusedCallsTest::fullButDraft), ofForty());
        checks.finish();
    }

    private static void compareAll(Checks checks, State state, List<Refusal> refusals) {
        for (Refusal refusal : refusals) {
            compare(checks, state, refusal);
        }
    }

    private static void compare(Checks checks, State state, Refusal refusal) {
        Calls plain = new Calls();
        state.builder().accept(plain);
        Calls refused = new Calls();
        state.builder().accept(refused);
        checks.due(state.name() + ": " + refusal.name(), refusal.call().applyAsLong(refused.x()), refusal.due());
        ask(plain);
        ask(refused);
        String name = state.name() + " after " + refusal.name();
        checks.due(name + ": at most 512 calls", refused.made <= CALL_LIMIT, true);
        checks.due(name + ": number of answers", refused.answers.size(), plain.answers.size());
        for (int i = 0; i < plain.answers.size(); i++) {
            checks.due(name + ": answer " + i, refused.answers.get(i), plain.answers.get(i));
        }
    }

    private static Refusal taken(String name, boolean due, java.util.function.Predicate<MorphIndex> call) {
        return new Refusal(name, due ? 1 : 0, x -> call.test(x) ? 1 : 0);
    }

    private static void type(List<Refusal> list, long s) {
        list.add(taken("type(" + s + ")", false, x -> x.type(s)));
    }

    private static void word(List<Refusal> list, int part, int cost, int cuts, int base) {
        list.add(new Refusal("word(" + part + ", " + cost + ", " + cuts + ", " + base + ")", -1,
            x -> x.word(part, cost, cuts, base)));
    }

    private static void rule(List<Refusal> list, int k, int flags, int part, int cost) {
        list.add(taken("rule(" + k + ", " + flags + ", " + part + ", " + cost + ")", false,
            x -> x.rule(k, flags, part, cost)));
    }

    private static void link(List<Refusal> list, int a, int b, int cost) {
        list.add(taken("link(" + a + ", " + b + ", " + cost + ")", false, x -> x.link(a, b, cost)));
    }

    private static void mode(List<Refusal> list, int han, int other) {
        list.add(taken("mode(" + han + ", " + other + ")", false, x -> x.mode(han, other)));
    }

    private static void chain(List<Refusal> list, int kind, int v) {
        list.add(taken("chain(" + kind + ", " + v + ")", false, x -> x.chain(kind, v)));
    }

    private static void drop(List<Refusal> list, int doc) {
        list.add(taken("drop(" + doc + ")", false, x -> x.drop(doc)));
    }

    private static List<Refusal> ofANewObject() {
        List<Refusal> list = new ArrayList<>();
        type(list, 256);
        type(list, Long.MIN_VALUE);
        word(list, 1, 0, 0, -1);
        wrongNumbers(list);
        drop(list, 0);
        drop(list, -1);
        list.add(new Refusal("add()", -1, MorphIndex::add));
        list.add(new Refusal("flush()", -1, MorphIndex::flush));
        return list;
    }

    /** Those whose refusal does not hang on what was done before. */
    private static void wrongNumbers(List<Refusal> list) {
        for (int wrong : new int[] {-1, 4, Integer.MIN_VALUE}) {
            rule(list, wrong, 7, 2, 33);
        }
        for (int wrong : new int[] {-1, 20, Integer.MAX_VALUE}) {
            rule(list, 2, wrong, 2, 33);
        }
        for (int wrong : new int[] {0, 8, -1}) {
            rule(list, 2, 7, wrong, 33);
        }
        for (int wrong : new int[] {-10001, 10001, Integer.MIN_VALUE}) {
            rule(list, 2, 7, 2, wrong);
            link(list, 0, 0, wrong);
            link(list, 3, 4, wrong);
        }
        for (int wrong : new int[] {-1, 8, Integer.MIN_VALUE}) {
            link(list, wrong, 3, 77);
            link(list, 3, wrong, 77);
        }
        for (int wrong : new int[] {-1, 10001, Integer.MAX_VALUE}) {
            mode(list, wrong, 9);
            mode(list, 9, wrong);
        }
        for (int wrong : new int[] {0, 8, -1}) {
            chain(list, 0, wrong);
            chain(list, 3, wrong);
        }
        for (int wrong : new int[] {1, -1, 7}) {
            chain(list, 1, wrong);
            chain(list, 2, wrong);
        }
        for (int wrong : new int[] {-2, 4, Integer.MIN_VALUE}) {
            chain(list, wrong, 0);
            chain(list, wrong, 1);
        }
    }

    /** Its draft is three characters of an entry that is there three times. */
    private static List<Refusal> ofABusyObject() {
        List<Refusal> list = new ArrayList<>();
        type(list, 256);
        type(list, -256);
        wrongNumbers(list);
        word(list, 1, 0, 0, -1);
        word(list, 1, 0, 2, -1);
        word(list, 1, 0, 0, 3);
        for (int doc : new int[] {-1, 1, 3, 8, 40, 64, 64 + 5, 5 - 64, Integer.MIN_VALUE}) {
            drop(list, doc);
        }
        return list;
    }

    /** Its draft is two characters of no entry, and ten entries are there: only the numbers are wrong. */
    private static List<Refusal> ofAFreeSurface() {
        List<Refusal> list = new ArrayList<>();
        for (int wrong : new int[] {0, 8, -1, Integer.MIN_VALUE, Integer.MAX_VALUE}) {
            word(list, wrong, 5, 0, -1);
        }
        for (int wrong : new int[] {-10001, 10001, Integer.MIN_VALUE, Integer.MAX_VALUE}) {
            word(list, 2, wrong, 0, -1);
        }
        for (int wrong : new int[] {1, 3, 4, 6, -1, Integer.MIN_VALUE}) {
            word(list, 2, 5, wrong, -1);
        }
        for (int wrong : new int[] {10, 11, 40, -2, Integer.MIN_VALUE}) {
            word(list, 2, 5, 0, wrong);
        }
        word(list, 2, 5, 2, 0);
        word(list, 2, 5, 2, 9);
        return list;
    }

    private static List<Refusal> ofAnEmptyDraft() {
        List<Refusal> list = new ArrayList<>();
        type(list, 256);
        word(list, 2, 5, 0, -1);
        word(list, 2, 5, 0, 0);
        list.add(new Refusal("add()", -1, MorphIndex::add));
        return list;
    }

    private static List<Refusal> ofALongDraft() {
        List<Refusal> list = new ArrayList<>();
        word(list, 2, 5, 0, -1);
        word(list, 2, 5, 2, -1);
        word(list, 2, 5, 0, 0);
        return list;
    }

    private static List<Refusal> ofADraftOfTwenty() {
        List<Refusal> list = new ArrayList<>();
        type(list, Checks.text(1, 2, 3, 4, 5));
        type(list, -1);
        return list;
    }

    private static List<Refusal> ofFourThatWait() {
        return List.of(new Refusal("add()", -1, MorphIndex::add));
    }

    private static List<Refusal> ofNoneThatWaits() {
        return List.of(new Refusal("flush()", -1, MorphIndex::flush));
    }

    /** All 40 entries and documents are there, the draft is as it should be and no document waits. */
    private static List<Refusal> ofForty() {
        List<Refusal> list = new ArrayList<>();
        word(list, 2, 5, 0, -1);
        word(list, 2, 5, 2, -1);
        word(list, 2, 5, 0, 39);
        list.add(new Refusal("add()", -1, MorphIndex::add));
        list.add(new Refusal("flush()", -1, MorphIndex::flush));
        return list;
    }

    /** Everything in it is full: 24 characters, 40 entries, 6 filters, 40 documents, 4 of which wait. */
    private static List<Refusal> ofAFullObject() {
        List<Refusal> list = new ArrayList<>();
        type(list, 65);
        type(list, -1);
        type(list, 256);
        word(list, 1, 0, 0, -1);
        chain(list, 0, 1);
        chain(list, 1, 0);
        chain(list, 2, 0);
        chain(list, 3, 1);
        chain(list, -2, 0);
        drop(list, 40);
        drop(list, 0);
        list.add(new Refusal("add()", -1, MorphIndex::add));
        return list;
    }

    /** Calls that answer NONE or 0 as there is nothing of the kind, and calls that read what is there. */
    private static List<Refusal> readings() {
        return List.of(
            new Refusal("token(-1, 0)", -1, x -> x.token(-1, 0)),
            new Refusal("token(24, 0)", -1, x -> x.token(24, 0)),
            new Refusal("token(0, 5)", -1, x -> x.token(0, 5)),
            new Refusal("token(0, -1)", -1, x -> x.token(0, -1)),
            new Refusal("token(0, 0)", 0, x -> x.token(0, 0)),
            new Refusal("term(-1)", 0, x -> x.term(-1)),
            new Refusal("term(24)", 0, x -> x.term(24)),
            new Refusal("segment(-2)", -1, x -> x.segment(-2)),
            new Refusal("segment(2)", -1, x -> x.segment(2)),
            new Refusal("segment(-1)", 2, x -> x.segment(-1)),
            new Refusal("match(40)", -1, x -> x.match(40)),
            new Refusal("match(-1)", 2, x -> x.match(-1)),
            new Refusal("places(-1)", 0, x -> x.places(-1)),
            new Refusal("places(64)", 0, x -> x.places(64)),
            new Refusal("places(2)", 1, x -> x.places(2)),
            new Refusal("paths()", 1, MorphIndex::paths),
            new Refusal("tokens()", 2, MorphIndex::tokens));
    }

    /**
     * Entries of every part and with cuts or a base, unequal links and rules, three filters; documents 0,
     * 2 and 4 in segments, 1 dropped while it waited, 3 dropped in its segment, 5 to 7 wait.
     */
    private static void busy(Calls calls) {
        for (int part = 1; part <= 7; part++) {
            calls.enter(part, part, 0, part - 2, 9 + part);
        }
        for (int i = 0; i < 3; i++) {
            calls.enter(1 + i, 40 + i, i == 0 ? 4 : 0, i == 1 ? 2 : -1, 65, 66, 67);
        }
        for (int k = 0; k < 4; k++) {
            calls.x().rule(k, 5 * k + 2, 1 + k, 100 + k);
        }
        for (int i = 0; i < 64; i++) {
            calls.x().link(i / 8, i % 8, 3 * i);
        }
        calls.x().mode(50, 60);
        calls.x().chain(0, 7);
        calls.x().chain(2, 0);
        calls.x().chain(3, 2);
        int[][] texts = {{10, 11, 12}, {65, 66, 67}, {65, 66, 67}, {65, 66, 67, 200}, {130, 191, 191},
            {10, 65, 66, 67}, {1}, {13, 14}};
        for (int doc = 0; doc < texts.length; doc++) {
            calls.draft(texts[doc]);
            calls.x().add();
            if (doc == 1) {
                calls.x().drop(1);
            }
            if (doc == 2 || doc == 4) {
                calls.x().flush();
            }
        }
        calls.x().open();
        calls.x().drop(3);
        calls.draft(65, 66, 67);
    }

    private static void busyAndRead(Calls calls) {
        busy(calls);
        calls.x().cost();
        calls.x().match(0);
    }

    private static State busyWithDraft(int... characters) {
        return new State("a busy object with a draft of " + characters.length, calls -> {
            busy(calls);
            calls.draft(characters);
        });
    }

    private static void fourWait(Calls calls) {
        busy(calls);
        calls.x().add();
    }

    private static void noneWaits(Calls calls) {
        busy(calls);
        calls.x().flush();
    }

    private static void fullButDraft(Calls calls) {
        full(calls);
        calls.x().flush();
        calls.draft(201, 202);
    }

    private static void full(Calls calls) {
        for (int i = 0; i < 40; i++) {
            calls.enter(1 + i % 7, i, 0, -1, 65 + i);
        }
        for (int i = 0; i < 6; i++) {
            calls.x().chain(0, 2 + i);
        }
        calls.draft(Checks.repeated(72, 24));
        for (int doc = 0; doc < 40; doc++) {
            calls.x().add();
            if (doc % 4 == 3 && doc != 39) {
                calls.x().flush();
            }
        }
        calls.x().drop(0);
        calls.x().open();
    }

    private static void ask(Calls calls) {
        askDraft(calls);
        askIndex(calls);
        askRoom(calls);
        askLinks(calls);
        askRules(calls);
        askFilters(calls);
    }

    private static void askDraft(Calls calls) {
        calls.keep(calls.x().cost());
        calls.keep(calls.x().paths());
        calls.keep(calls.x().nodes());
        int tokens = calls.x().tokens();
        calls.keep(tokens);
        for (int i = 0; i <= tokens; i += tokens > 4 ? 11 : 1) {
            for (int what = 0; what < 5; what++) {
                calls.keep(calls.x().token(i, what));
            }
            calls.keep(calls.x().term(i));
        }
    }

    private static void askIndex(Calls calls) {
        for (int i = -1; i < 4; i++) {
            calls.keep(calls.x().segment(i));
        }
        for (int doc : new int[] {0, 1, 2, 3, 4, 5, 8, 35, 36, 39}) {
            calls.keep(calls.x().places(doc));
            calls.keep(calls.x().match(doc));
        }
    }

    /** How much more goes in, and under which numbers; what waits and lies is told by what flush() answers. */
    private static void askRoom(Calls calls) {
        calls.keep(calls.x().word(1, 0, 0, -1));
        calls.keep(calls.x().type(Checks.text(201, 201, 201)));
        calls.keep(calls.x().add());
        calls.keep(calls.x().add());
        calls.keep(calls.x().flush());
        calls.keep(calls.x().add());
        calls.keep(calls.x().flush());
        calls.keep(calls.x().segment(-1));
        calls.keep(calls.x().open());
        calls.keep(calls.x().match(0));
        calls.draft(201);
        calls.keep(calls.x().word(1, 0, 0, -1));
    }

    /** Drafts of the characters 10 .. 16, the parts 1 .. 7 of the busy object: every link is in one of them. */
    private static void askLinks(Calls calls) {
        calls.draft();
        calls.keep(calls.x().cost());
        int[][] walks = {
            {12, 12, 13, 13, 12, 16, 16, 12, 14, 14, 12, 11, 11, 14, 15, 15, 10, 10, 13, 16, 10, 12, 15, 11},
            {11, 12, 10, 14, 13, 15, 14, 16, 13, 10, 15, 12}, {10, 11, 15, 16, 11, 10, 16, 14, 10},
            {15, 13, 14, 11, 13, 11, 16, 15}, {13}, {14}, {16}};
        for (int[] walk : walks) {
            calls.draft(walk);
            calls.keep(calls.x().cost());
        }
    }

    /** Characters of no entry, of each class, some of them long enough to be charged. */
    private static void askRules(Calls calls) {
        int[][] drafts = {{1, 2, 3, 4, 5, 6}, {120, 121, 122, 123}, {150, 151, 152, 153, 154, 155},
            {210, 211, 212, 213, 214, 215}};
        for (int[] draft : drafts) {
            calls.draft(draft);
            calls.keep(calls.x().cost());
            calls.keep(calls.x().nodes());
            calls.keep(calls.x().tokens());
            calls.keep(calls.x().token(0, 2));
        }
    }

    /** Terms that each filter changes, and how many filters more go in. */
    private static void askFilters(Calls calls) {
        int[][] drafts = {{16}, {11}, {10}, {200}, {150, 191, 191, 191}};
        for (int[] draft : drafts) {
            calls.draft(draft);
            calls.keep(calls.x().term(0));
        }
        boolean room = true;
        for (int i = 0; i < 7 && room; i++) {
            room = calls.x().chain(1, 0);
            calls.keep(room);
        }
    }
}
