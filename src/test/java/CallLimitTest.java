/** "An object is used for at most 512 calls after it has been made": the 512th is answered as the first. */
public final class CallLimitTest {
    private static final int CALL_LIMIT = 512;

    public static void main(String[] args) {
        Checks checks = new Checks();
        readsTheDraftToTheLastCall(checks);
        changesLinksToTheLastCall(checks);
        fillsTheIndexBeforeTheLastCall(checks);
        checks.finish();
    }

    private static void readsTheDraftToTheLastCall(Checks checks) {
        MorphIndex x = new MorphIndex();
        for (int call = 0; call < CALL_LIMIT; call += 4) {
            checks.due("type(0), call " + call, x.type(0), true);
            checks.due("type of two, call " + (call + 1), x.type(Checks.text(65, 66)), true);
            checks.due("tokens(), call " + (call + 2), x.tokens(), 2);
            checks.due("term(1), call " + (call + 3), x.term(1), 66);
        }
    }

    private static void changesLinksToTheLastCall(Checks checks) {
        MorphIndex x = new MorphIndex();
        for (int call = 0; call < CALL_LIMIT; call += 2) {
            checks.due("link(0, 0), call " + call, x.link(0, 0, call), true);
            checks.due("cost(), call " + (call + 1), x.cost(), call);
        }
    }

    private static void fillsTheIndexBeforeTheLastCall(Checks checks) {
        MorphIndex x = new MorphIndex();
        x.type(65);
        for (int call = 1; call < CALL_LIMIT - 1; call += 2) {
            x.add();
            x.flush();
        }
        checks.due("the last call, open()", x.open(), 40);
    }
}
