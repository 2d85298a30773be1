/** Promises 24 to 27: the changes of an athlete, and camps. */
public final class ChangesTest {
    private static final Check check = new Check("ChangesTest");

    private ChangesTest() {
    }

    public static void main(String[] args) {
        changes();
        ofOneAthlete();
        ofMost();
        wrong();
        camp();
        campRanges();
        campAgain();
        check.end();
    }

    private static void changes() {
        Taperhall hall = new Taperhall();
        Halls.session(hall, 5, 60);
        Halls.athlete(hall, 0, 0);
        check.same("24: none", hall.changes(0), 0);
        Halls.plan(hall, 0, 3, "aaa");
        hall.shift(0, 1, 2);
        hall.drop(0, 6);
        check.sameText("24: by calls, of the days that they name", Halls.changes(hall, 0), "a3 s1 d6");
        hall.setLanes(0);
        hall.pass(6);
        check.sameText("24: by days", Halls.changes(hall, 0), "a3 s1 d6 h5");
        hall.ill(0, 2);
        hall.pass(2);
        check.sameText("24: by illness", Halls.changes(hall, 0), "a3 s1 d6 h5 i7");
        check.same("24: how many", hall.changes(0), 5);
        check.sameChar("25: the first", hall.cause(0, 0), 'a');
        check.sameChar("25: the last", hall.cause(0, 4), 'i');
        check.same("26: the first", hall.changeDay(0, 0), 3);
        check.same("26: the last", hall.changeDay(0, 4), 7);
    }

    private static void ofOneAthlete() {
        Taperhall hall = new Taperhall();
        Halls.athlete(hall, 0, 0);
        Halls.athlete(hall, 0, 0);
        hall.shift(1, 5, 2);
        check.same("24: of the other one", hall.changes(0), 0);
        check.same("24: of that one", hall.changes(1), 1);
        Halls.type(hall, "a");
        check.failsUnsupported("24: what is refused is none", hall, () -> hall.plan(0, 0));
        check.same("24: none", hall.changes(0), 0);
    }

    private static void ofMost() {
        Taperhall hall = new Taperhall();
        Halls.athlete(hall, 0, 0);
        for (int count = 1; count <= 45; count++) {
            hall.shift(0, count, 1);
            check.same("24: count", hall.changes(0), Math.min(40, count));
        }
        check.same("26: the first are kept", hall.changeDay(0, 0), 1);
        check.same("26: the fortieth", hall.changeDay(0, 39), 40);
        check.failsElement("26: the next", hall, () -> hall.changeDay(0, 40));
        check.failsElement("25: the next", hall, () -> hall.cause(0, 40));
    }

    private static void wrong() {
        Taperhall hall = new Taperhall();
        Halls.athlete(hall, 0, 0);
        hall.shift(0, 0, 1);
        check.failsIndex("24: athlete 1", hall, () -> hall.changes(1));
        check.failsIndex("24: athlete -1", hall, () -> hall.changes(-1));
        check.failsIndex("25: athlete 1", hall, () -> hall.cause(1, 0));
        check.failsIndex("25: athlete -1, no such change", hall, () -> hall.cause(-1, 5));
        check.failsElement("25: -1", hall, () -> hall.cause(0, -1));
        check.failsElement("25: 1", hall, () -> hall.cause(0, 1));
        check.failsIndex("26: athlete 1", hall, () -> hall.changeDay(1, 0));
        check.failsIndex("26: athlete -1, no such change", hall, () -> hall.changeDay(-1, 5));
        check.failsElement("26: -1", hall, () -> hall.changeDay(0, -1));
        check.failsElement("26: 1", hall, () -> hall.changeDay(0, 1));
        check.failsElement("26: the last int", hall, () -> hall.changeDay(0, Integer.MAX_VALUE));
    }

    private static void camp() {
        Taperhall hall = new Taperhall();
        hall.athlete(0, 0, 500, 20, 3);
        hall.pass(2);
        check.same("27: its last day", hall.camp(0, 7), 8);
        for (int day = 2; day < 40; day++) {
            int behind = day - 8;
            int due = behind >= 1 && behind <= 3 ? -7 : behind >= 10 && behind <= 24 ? 14 : 0;
            check.same("21: what it gives on the day " + day, hall.body(0, 'c'), due);
            check.same("21: ready on the day " + day, hall.body(0, 'r'), 500 + due);
            hall.pass(1);
        }
        check.same("24: no change", hall.changes(0), 0);
    }

    private static void campRanges() {
        Taperhall hall = new Taperhall();
        Halls.athlete(hall, 0, 0);
        check.failsArgument("27: 0", hall, () -> hall.camp(0, 0));
        check.failsArgument("27: 22", hall, () -> hall.camp(0, 22));
        check.failsArgument("27: -1", hall, () -> hall.camp(0, -1));
        check.failsIndex("27: athlete 1", hall, () -> hall.camp(1, 1));
        check.failsIndex("27: athlete -1, out of range", hall, () -> hall.camp(-1, 0));
        check.same("27: most", hall.camp(0, 21), 20);
        Halls.passTo(hall, 239);
        check.same("27: beyond the last day", hall.camp(0, 3), 241);
        check.same("27: of now", hall.camp(0, 1), 239);
    }

    private static void campAgain() {
        Taperhall hall = new Taperhall();
        Halls.athlete(hall, 0, 0);
        Halls.athlete(hall, 0, 0);
        hall.camp(0, 5);
        hall.pass(15);
        check.same("27: it gives", hall.body(0, 'c'), 10);
        check.same("27: of one athlete alone", hall.body(1, 'c'), 0);
        check.same("27: another one", hall.camp(0, 2), 16);
        check.same("27: the last one alone counts", hall.body(0, 'c'), 0);
        hall.pass(2);
        check.same("27: its loss", hall.body(0, 'c'), -2);
        hall.pass(9);
        check.same("27: its gain", hall.body(0, 'c'), 4);
    }
}
