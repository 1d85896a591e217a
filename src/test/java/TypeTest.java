/** Promise 2: type. */
public final class TypeTest {
    public static void main(String[] args) {
        Checks checks = new Checks();
        putsBehind(checks);
        readsUpToTheFirstZeroByte(checks);
        refusesMoreThan24(checks);
        empties(checks);
        checks.finish();
    }

    private static void putsBehind(Checks checks) {
        MorphIndex x = new MorphIndex();
        checks.due("type of 3", x.type(Checks.text(65, 1, 255)), true);
        checks.due("type of 1 more", x.type(66), true);
        checks.due("tokens()", x.tokens(), 4);
        int[] due = {65, 1, 255, 66};
        for (int i = 0; i < due.length; i++) {
            checks.due("term(" + i + ")", x.term(i), due[i]);
        }
        x.type(0);
        checks.due("type of 8, the last 255", x.type(Checks.text(1, 2, 3, 4, 5, 6, 7, 255)), true);
        checks.due("tokens() of 8", x.tokens(), 8);
        checks.due("term(7) of 8", x.term(7), 255);
        checks.due("type(-1)", x.type(-1L), true);
        checks.due("tokens() of 16", x.tokens(), 16);
        checks.due("term(15) of 16", x.term(15), 255);
    }

    private static void readsUpToTheFirstZeroByte(Checks checks) {
        MorphIndex x = new MorphIndex();
        checks.due("type with a zero byte inside", x.type(Checks.text(65, 66, 0, 67, 68)), true);
        checks.due("tokens() up to the zero byte", x.tokens(), 2);
        checks.due("term(1) up to the zero byte", x.term(1), 66);
        checks.due("type with the lowest byte 0", x.type(Checks.text(0, 65)), false);
        checks.due("type(Long.MIN_VALUE)", x.type(Long.MIN_VALUE), false);
        checks.due("tokens() after refused ones", x.tokens(), 2);
    }

    private static void refusesMoreThan24(Checks checks) {
        MorphIndex x = new MorphIndex();
        long eight = Checks.text(1, 2, 3, 4, 5, 6, 7, 8);
        checks.due("type to 8", x.type(eight), true);
        checks.due("type to 16", x.type(eight), true);
        checks.due("type to 23", x.type(Checks.text(1, 2, 3, 4, 5, 6, 7)), true);
        checks.due("type to 25", x.type(Checks.text(9, 9)), false);
        checks.due("tokens() of 23", x.tokens(), 23);
        checks.due("type to 24", x.type(Checks.text(9, 0, 9, 9)), true);
        checks.due("tokens() of 24", x.tokens(), 24);
        checks.due("type to 25 from 24", x.type(9), false);
        checks.due("type(256) at 24", x.type(256), false);
        checks.due("tokens() still of 24", x.tokens(), 24);
        checks.due("term(23)", x.term(23), 9);
    }

    private static void empties(Checks checks) {
        MorphIndex x = new MorphIndex();
        checks.due("type(0) of the empty draft", x.type(0), true);
        Checks.draft(x, Checks.repeated(65, 24));
        checks.due("type(0) of 24", x.type(0), true);
        checks.due("tokens() after type(0)", x.tokens(), 0);
        checks.due("nodes() after type(0)", x.nodes(), 0);
        checks.due("type after type(0)", x.type(66), true);
        checks.due("term(0) after type(0)", x.term(0), 66);
    }
}
