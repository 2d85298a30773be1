/** Promises 10 to 12: athletes, how they answer, and their ceilings. */
public final class AthletesTest {
    private static final Check check = new Check("AthletesTest");

    private AthletesTest() {
    }

    public static void main(String[] args) {
        athlete();
        athleteAtFirst();
        athleteOfMost();
        athleteLater();
        answers();
        answersAtWork();
        setCeiling();
        setCeilingOverDone();
        check.end();
    }

    private static void athlete() {
        Taperhall hall = new Taperhall();
        check.same("10: the first", hall.athlete(0, 0, 0, 20, 3), 0);
        check.same("10: the second", hall.athlete(3, 9, 9999, 60, 15), 1);
        check.same("10: base", hall.body(1, 'r'), 9999);
        check.same("10: tolerance", hall.answers(0, 1, 1, 20), 200);
        check.same("10: ceiling", hall.setCeiling(0, 100), 9999);
        int[][] wrongs = {{-1, 0, 0, 20, 3}, {4, 0, 0, 20, 3}, {0, -1, 0, 20, 3}, {0, 10, 0, 20, 3}, {0, 0, -1, 20, 3},
            {0, 0, 10000, 20, 3}, {0, 0, 0, 19, 3}, {0, 0, 0, 61, 3}, {0, 0, 0, 20, 2}, {0, 0, 0, 20, 16}};
        for (int[] w : wrongs) {
            check.failsArgument("10: " + java.util.Arrays.toString(w), hall,
                () -> hall.athlete(w[0], w[1], w[2], w[3], w[4]));
        }
        check.failsIndex("10: a third", hall, () -> hall.changes(2));
    }

    private static void athleteAtFirst() {
        Taperhall hall = new Taperhall();
        hall.session();
        for (int set = 0; set < 6; set++) {
            hall.set('a', 5, 60, 0);
        }
        hall.athlete(0, 0, 0, 20, 3);
        Halls.plan(hall, 0, 0, "a");
        hall.pass(1);
        check.same("10: a gain of 1", hall.body(0, 'f'), 990 - 49);
        check.same("10: a cost of 1", hall.body(0, 'g'), 990 - 330);
        check.same("10: a tolerance of 200", hall.body(0, 'd'), 790 - 98);
    }

    private static void athleteOfMost() {
        Taperhall hall = new Taperhall();
        for (int due = 0; due < 8; due++) {
            check.same("10: number", hall.athlete(1, 1, 1, 30, 7), due);
        }
        check.failsState("10: the ninth", hall, () -> hall.athlete(1, 1, 1, 30, 7));
        check.failsArgument("10: the ninth, out of range", hall, () -> hall.athlete(4, 1, 1, 30, 7));
        check.same("10: the eighth is there", hall.changes(7), 0);
    }

    private static void athleteLater() {
        Taperhall hall = new Taperhall();
        hall.pass(2);
        Halls.athlete(hall, 0, 0);
        check.same("10: nothing felt ahead", hall.felt(0, 1), 0);
        check.sameChar("10: nothing planned ahead", hall.planned(0, 1), '.');
        check.same("10: no form", hall.body(0, 'f'), 0);
        check.same("10: no camp", hall.body(0, 'c'), 0);
        check.same("10: not ill", hall.body(0, 'k'), 0);
    }

    private static void answers() {
        Taperhall hall = new Taperhall();
        Halls.athlete(hall, 0, 0);
        check.same("11: first", hall.answers(0, 1, 9, 20), 200);
        check.same("11: second", hall.answers(0, 9, 1, 200), 20);
        int[][] wrongs = {{0, 1, 20}, {10, 1, 20}, {1, 0, 20}, {1, 10, 20}, {1, 1, 19}, {1, 1, 201}};
        for (int[] w : wrongs) {
            check.failsArgument("11: " + java.util.Arrays.toString(w), hall, () -> hall.answers(0, w[0], w[1], w[2]));
        }
        check.failsIndex("11: athlete 1", hall, () -> hall.answers(1, 1, 1, 20));
        check.failsIndex("11: athlete -1", hall, () -> hall.answers(-1, 1, 1, 20));
        check.failsIndex("11: athlete 1, out of range", hall, () -> hall.answers(1, 0, 1, 20));
        check.same("11: as before", hall.answers(0, 1, 1, 30), 200);
    }

    private static void answersAtWork() {
        Taperhall hall = new Taperhall();
        Halls.session(hall, 3, 60);
        hall.athlete(0, 0, 0, 20, 3);
        hall.answers(0, 4, 7, 20);
        Halls.plan(hall, 0, 0, "a");
        hall.pass(1);
        check.same("11: the gain", hall.body(0, 'f'), 240 - 12);
        check.same("11: the cost", hall.body(0, 'g'), 420 - 140);
        check.same("11: the tolerance", hall.body(0, 'd'), 40 - 5);
    }

    private static void setCeiling() {
        Taperhall hall = new Taperhall();
        Halls.session(hall, 3, 60);
        Halls.athlete(hall, 0, 0);
        check.same("12: least", hall.setCeiling(0, 100), 9999);
        check.same("12: most", hall.setCeiling(0, 9999), 100);
        check.failsArgument("12: 99", hall, () -> hall.setCeiling(0, 99));
        check.failsArgument("12: 10000", hall, () -> hall.setCeiling(0, 10000));
        check.failsIndex("12: athlete 1", hall, () -> hall.setCeiling(1, 99));
        Halls.plan(hall, 0, 0, "aa");
        check.failsUnsupported("12: planned exceeds", hall, () -> hall.setCeiling(0, 119));
        check.failsArgument("12: out of range first", hall, () -> hall.setCeiling(0, 99));
        check.same("12: just so much", hall.setCeiling(0, 120), 9999);
        check.failsIndex("12: athlete -1", hall, () -> hall.setCeiling(-1, 100));
    }

    private static void setCeilingOverDone() {
        Taperhall hall = new Taperhall();
        Halls.session(hall, 3, 60);
        Halls.athlete(hall, 0, 0);
        Halls.plan(hall, 0, 0, "aa");
        hall.pass(30);
        check.failsUnsupported("12: done exceeds", hall, () -> hall.setCeiling(0, 119));
        check.same("12: just so much was done", hall.setCeiling(0, 120), 9999);
        Taperhall other = new Taperhall();
        Halls.session(other, 3, 60);
        Halls.athlete(other, 0, 0);
        Halls.plan(other, 0, 0, "aa");
        other.ill(0, 1);
        other.pass(2);
        check.same("12: what was not done does not count", other.setCeiling(0, 100), 9999);
    }
}
