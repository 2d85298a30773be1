/** Promises 6 to 9: the plan that is typed, its fault, and the days that it unfolds to. */
public final class ScriptTest {
    private static final Check check = new Check("ScriptTest");

    private ScriptTest() {
    }

    public static void main(String[] args) {
        type();
        typeOfMost();
        wipe();
        fault();
        faultOfDepth();
        faultOfSessions();
        faultOfLength();
        unfolds();
        check.end();
    }

    private static void type() {
        Taperhall hall = new Taperhall();
        String signs = "az29.()";
        for (int index = 0; index < signs.length(); index++) {
            check.same("6: " + signs.charAt(index), hall.type(signs.charAt(index)), index + 1);
        }
        for (char wrong : "AZ01`{:/,- \n*+".toCharArray()) {
            check.failsArgument("6: " + (int) wrong, hall, () -> hall.type(wrong));
        }
        check.failsArgument("6: 0", hall, () -> hall.type((char) 0));
        check.failsArgument("6: 65535", hall, () -> hall.type((char) 65535));
        check.failsArgument("6: a digit beyond the first 128", hall, () -> hall.type((char) 0x0662));
        check.same("6: as before", hall.type('b'), signs.length() + 1);
    }

    private static void typeOfMost() {
        Taperhall hall = new Taperhall();
        for (int due = 1; due <= 24; due++) {
            check.same("6: count", hall.type('.'), due);
        }
        check.failsState("6: the 25th", hall, () -> hall.type('.'));
        check.failsArgument("6: the 25th, wrong", hall, () -> hall.type('1'));
        check.same("6: as before", hall.unfolds(), 24);
        check.same("7: of most", hall.wipe(), 24);
        check.same("6: again", hall.type('.'), 1);
    }

    private static void wipe() {
        Taperhall hall = new Taperhall();
        check.same("7: nothing", hall.wipe(), 0);
        Halls.type(hall, "..");
        check.same("7: two", hall.wipe(), 2);
        check.same("7: again", hall.wipe(), 0);
        check.same("7: nothing is left", hall.fault(), 0);
    }

    private static void faultIs(Taperhall hall, String plan, int due) {
        Halls.type(hall, plan);
        check.same("8: " + plan, hall.fault(), due);
        if (due == -1) {
            check.holds("9: " + plan + " unfolds", hall.unfolds() > 0);
        } else {
            check.failsState("9: " + plan, hall, () -> hall.unfolds());
        }
    }

    private static void fault() {
        Taperhall hall = new Taperhall();
        faultIs(hall, "", 0);
        faultIs(hall, ".", -1);
        faultIs(hall, "2", 1);
        faultIs(hall, "2.", 1);
        faultIs(hall, "22(.)", 1);
        faultIs(hall, "2)", 1);
        faultIs(hall, "(", 0);
        faultIs(hall, ".(.)", 1);
        faultIs(hall, ")", 0);
        faultIs(hall, ".)", 1);
        faultIs(hall, "2(", 2);
        faultIs(hall, "2()", 2);
        faultIs(hall, ".2()", 3);
        faultIs(hall, "2(.2())", 5);
        faultIs(hall, "2(.)2()", 6);
        faultIs(hall, "2(.", 3);
        faultIs(hall, "2(.)", -1);
        faultIs(hall, "2(.))", 4);
        faultIs(hall, "2(.)3", 5);
        faultIs(hall, "2(.)3(", 6);
        faultIs(hall, "2(.)3(.)", -1);
        faultIs(hall, "2(.2)", 4);
        faultIs(hall, "2(3(.)", 6);
        faultIs(hall, "2(3(.))", -1);
        faultIs(hall, "2(3())", 4);
        faultIs(hall, "2((.))", 2);
        faultIs(hall, ".2(.2(.).).", -1);
    }

    private static void faultOfDepth() {
        Taperhall hall = new Taperhall();
        faultIs(hall, "2(2(2(.)))", -1);
        faultIs(hall, "2(2(2(2(.))))", 7);
        faultIs(hall, "2(2(2(2", 7);
        faultIs(hall, "2(2(2(2.)))", 7);
        faultIs(hall, "2(2(2(.)2(.)))", -1);
        faultIs(hall, "2(2(2(.)2(2(.))))", 11);
        faultIs(hall, "2(2(2(.)))2(2(2(.)))", -1);
    }

    private static void faultOfSessions() {
        Taperhall hall = new Taperhall();
        faultIs(hall, "a", 0);
        faultIs(hall, ".2(.a)", 4);
        faultIs(hall, "a)", 0);
        hall.session();
        faultIs(hall, "a", -1);
        faultIs(hall, "ab", 1);
        Halls.type(hall, "ab");
        hall.session();
        check.same("8: the session came behind the plan", hall.fault(), -1);
        for (int count = 2; count < 10; count++) {
            hall.session();
        }
        faultIs(hall, "abcdefghij", -1);
        faultIs(hall, "jk", 1);
        faultIs(hall, "jz", 1);
    }

    private static void faultOfLength() {
        Taperhall hall = new Taperhall();
        faultIs(hall, "6(5(2(.)))", -1);
        faultIs(hall, "6(5(2(.))).", 11);
        faultIs(hall, "9(7(.))", 7);
        faultIs(hall, "9(9(9(..............)))", 23);
        faultIs(hall, "9(9(9(.)))a", 10);
        faultIs(hall, "9(9(9(.))).)", 11);
        faultIs(hall, "9(9(9(.)))9(9(9(.", 17);
        faultIs(hall, "9(6(.)).......", 14);
        faultIs(hall, "9(6(.))......", -1);
    }

    private static void unfolds() {
        Taperhall hall = new Taperhall();
        hall.session();
        hall.session();
        unfoldsTo(hall, "a", "a");
        unfoldsTo(hall, ".", ".");
        unfoldsTo(hall, "a.b", "a.b");
        unfoldsTo(hall, "2(a.)b", "a.a.b");
        unfoldsTo(hall, "2(a2(b).)", "abb.abb.");
        unfoldsTo(hall, "3(2(a)2(.b))a", "aa.b.baa.b.baa.b.ba");
        unfoldsTo(hall, "2(2(2(ab).)a)", "abab.abab.aabab.abab.a");
        unfoldsTo(hall, "9(a)", "aaaaaaaaa");
        unfoldsTo(hall, "3(4(5(b)))", "b".repeat(60));
        unfoldsTo(hall, "2(a)2(2(b)a).2(.a)", "aabbabba..a.a");
    }

    private static void unfoldsTo(Taperhall hall, String plan, String due) {
        Halls.type(hall, plan);
        check.same("8: " + plan, hall.fault(), -1);
        check.same("9: " + plan, hall.unfolds(), due.length());
        int athlete = 0;
        if (Readout.answer(() -> hall.changes(0)).equals("IndexOutOfBoundsException")) {
            athlete = Halls.athlete(hall, 0, 0);
        }
        check.same("13: " + plan, hall.plan(athlete, 0), due.length());
        check.sameText("9: the days of " + plan, Halls.days(hall, athlete, 0, due.length()), due);
        check.same("9: it stays typed", hall.wipe(), plan.length());
    }
}
