/** Promises 13 to 18: plans, shifts, days that are dropped, what is planned and felt, and the peak. */
public final class PlansTest {
    private static final Check check = new Check("PlansTest");

    private PlansTest() {
    }

    public static void main(String[] args) {
        plan();
        planRanges();
        planOfFault();
        planAtTheEnd();
        planUnderCeiling();
        planNextToDone();
        shift();
        shiftRanges();
        shiftAtTheEnd();
        drop();
        planned();
        felt();
        peak();
        peakOfDone();
        check.end();
    }

    /** A hall with the sessions a of 60, b of 40 and c of 165 felt, which is hard, and one athlete. */
    private static Taperhall ready() {
        Taperhall hall = new Taperhall();
        Halls.session(hall, 3, 60);
        Halls.session(hall, 3, 40);
        Halls.session(hall, 5, 60);
        Halls.athlete(hall, 0, 0);
        return hall;
    }

    private static void plan() {
        Taperhall hall = ready();
        check.same("13: days", Halls.plan(hall, 0, 2, "ab.a"), 4);
        check.sameText("13: the days", Halls.days(hall, 0, 0, 8), "..ab.a..");
        check.same("13: over it", Halls.plan(hall, 0, 3, ".b"), 2);
        check.sameText("13: in place", Halls.days(hall, 0, 0, 8), "..a.ba..");
        check.same("13: it stays typed", hall.plan(0, 7), 2);
        check.sameText("13: again", Halls.days(hall, 0, 0, 9), "..a.ba..b");
        check.same("13: rests alone", Halls.plan(hall, 0, 0, "9(.)"), 9);
        check.sameText("13: all at rest", Halls.days(hall, 0, 0, 9), ".........");
        Halls.athlete(hall, 0, 0);
        Halls.plan(hall, 1, 0, "a");
        check.sameText("13: of one athlete alone", Halls.days(hall, 0, 0, 3), "...");
    }

    private static void planRanges() {
        Taperhall hall = ready();
        Halls.type(hall, "a");
        check.failsIndex("13: athlete 1", hall, () -> hall.plan(1, 0));
        check.failsIndex("13: athlete -1", hall, () -> hall.plan(-1, 0));
        check.failsIndex("13: athlete 8", hall, () -> hall.plan(8, -1));
        check.failsArgument("13: day -1", hall, () -> hall.plan(0, -1));
        check.failsArgument("13: day 240", hall, () -> hall.plan(0, 240));
        check.failsArgument("13: the last int", hall, () -> hall.plan(0, Integer.MAX_VALUE));
        hall.pass(1);
        check.failsArgument("13: a day that went by", hall, () -> hall.plan(0, 0));
        check.same("13: the day of now", hall.plan(0, 1), 1);
    }

    private static void planOfFault() {
        Taperhall hall = ready();
        check.failsUnsupported("13: nothing typed", hall, () -> hall.plan(0, 0));
        Halls.type(hall, "2(a");
        check.failsUnsupported("13: a fault", hall, () -> hall.plan(0, 0));
        check.failsArgument("13: a fault, out of range", hall, () -> hall.plan(0, -1));
        Halls.type(hall, "d");
        check.failsUnsupported("13: a session that is not there", hall, () -> hall.plan(0, 0));
        Halls.type(hall, "9(7(.))");
        check.failsUnsupported("13: above 60 days", hall, () -> hall.plan(0, 0));
    }

    private static void planAtTheEnd() {
        Taperhall hall = ready();
        Halls.type(hall, "6(9(.)).....a");
        check.failsUnsupported("13: 60 days from 181", hall, () -> hall.plan(0, 181));
        check.same("13: 60 days from 180", hall.plan(0, 180), 60);
        check.sameChar("13: the last day", hall.planned(0, 239), 'a');
        Halls.type(hall, "b");
        check.same("13: the last day alone", hall.plan(0, 239), 1);
        Halls.type(hall, "..");
        check.failsUnsupported("13: rests beyond the last day", hall, () -> hall.plan(0, 239));
    }

    private static void planUnderCeiling() {
        Taperhall hall = ready();
        hall.setCeiling(0, 180);
        check.same("13: just the ceiling", Halls.plan(hall, 0, 10, "a..a..a......."), 14);
        Halls.type(hall, "b");
        for (int day = 10; day <= 16; day++) {
            int one = day;
            if (day == 10 || day == 13 || day == 16) {
                continue;
            }
            check.failsUnsupported("13: more on day " + day, hall, () -> hall.plan(0, one));
        }
        check.same("13: less in place", hall.plan(0, 13), 1);
        check.same("13: six days ahead of the second", hall.plan(0, 7), 1);
        check.same("13: behind", hall.plan(0, 19), 1);
        check.same("13: the peak", hall.peak(0), 160);
        Halls.type(hall, "c");
        check.failsUnsupported("13: six days behind the first of two", hall, () -> hall.plan(0, 22));
        check.same("13: seven days behind the last one", hall.plan(0, 26), 1);
        Halls.type(hall, "aaaa");
        check.failsUnsupported("13: within itself", hall, () -> hall.plan(0, 100));
    }

    private static void planNextToDone() {
        Taperhall hall = ready();
        hall.setCeiling(0, 200);
        Halls.plan(hall, 0, 0, "c");
        hall.pass(6);
        Halls.type(hall, "b");
        check.failsUnsupported("13: done six days ago", hall, () -> hall.plan(0, 6));
        hall.pass(1);
        check.same("13: done seven days ago", hall.plan(0, 7), 1);
        Taperhall other = ready();
        other.setCeiling(0, 201);
        other.setLanes(0);
        Halls.plan(other, 0, 0, "c");
        other.pass(1);
        Halls.type(other, "aa");
        check.failsUnsupported("13: half done counts half", other, () -> other.plan(0, 1));
        other.setCeiling(0, 202);
        check.same("13: and no more", other.plan(0, 1), 2);
        check.same("13: the peak of it", other.peak(0), 82 + 120);
    }

    private static void shift() {
        Taperhall hall = ready();
        Halls.plan(hall, 0, 0, "ab.c.b");
        check.same("14: sessions", hall.shift(0, 1, 2), 3);
        check.sameText("14: the days", Halls.days(hall, 0, 0, 10), "a..b.c.b..");
        check.same("14: from a rest", hall.shift(0, 4, 1), 2);
        check.sameText("14: the days again", Halls.days(hall, 0, 0, 10), "a..b..c.b.");
        check.same("14: all by nine", hall.shift(0, 0, 9), 4);
        check.sameText("14: the days at last", Halls.days(hall, 0, 0, 19), ".........a..b..c.b.");
        check.same("14: nothing to shift", hall.shift(0, 30, 3), 0);
        check.sameText("14: a change all the same", Halls.changes(hall, 0), "a0 s1 s4 s0 s30");
        Halls.athlete(hall, 0, 0);
        Halls.plan(hall, 1, 0, "cab");
        check.same("14: of one athlete alone", hall.shift(0, 9, 1), 4);
        check.sameText("14: what is ahead stays", Halls.days(hall, 0, 0, 19), "..........a..b..c.b");
        check.sameText("14: what is planned for the other one", Halls.days(hall, 1, 0, 5), "cab..");
        Taperhall other = new Taperhall();
        Halls.athlete(other, 0, 0);
        other.shift(0, 5, 1);
        check.sameText("14: of a new hall", Halls.days(other, 0, 0, 240), ".".repeat(240));
    }

    private static void shiftRanges() {
        Taperhall hall = ready();
        check.failsIndex("14: athlete 1", hall, () -> hall.shift(1, 0, 1));
        check.failsIndex("14: athlete -1", hall, () -> hall.shift(-1, -1, 1));
        check.failsArgument("14: day -1", hall, () -> hall.shift(0, -1, 1));
        check.failsArgument("14: day 240", hall, () -> hall.shift(0, 240, 1));
        check.failsArgument("14: by 0", hall, () -> hall.shift(0, 0, 0));
        check.failsArgument("14: by 10", hall, () -> hall.shift(0, 0, 10));
        check.failsArgument("14: by -1", hall, () -> hall.shift(0, 0, -1));
        Halls.plan(hall, 0, 0, "a.a");
        hall.pass(1);
        check.failsArgument("14: a day that went by", hall, () -> hall.shift(0, 0, 1));
        check.same("14: the day of now", hall.shift(0, 1, 1), 1);
        check.sameText("14: what went by stays", Halls.days(hall, 0, 0, 5), "a..a.");
    }

    private static void shiftAtTheEnd() {
        Taperhall hall = ready();
        Halls.plan(hall, 0, 230, "a");
        check.failsArgument("14: a shift of ten", hall, () -> hall.shift(0, 230, 10));
        check.same("14: to the last day", hall.shift(0, 230, 9), 1);
        check.sameChar("14: on the last day", hall.planned(0, 239), 'a');
        check.failsUnsupported("14: beyond it", hall, () -> hall.shift(0, 0, 1));
        check.failsUnsupported("14: from the last day", hall, () -> hall.shift(0, 239, 1));
        hall.drop(0, 239);
        check.same("14: rests may go beyond it", hall.shift(0, 239, 9), 0);
        Halls.plan(hall, 0, 236, "ab");
        check.failsUnsupported("14: one of two beyond it", hall, () -> hall.shift(0, 236, 3));
        check.same("14: both just not", hall.shift(0, 236, 2), 2);
        check.sameText("14: both", Halls.days(hall, 0, 235, 240), "...ab");
        Halls.plan(hall, 0, 200, "a");
        check.failsUnsupported("14: the later ones go along", hall, () -> hall.shift(0, 200, 1));
    }

    private static void drop() {
        Taperhall hall = ready();
        Halls.plan(hall, 0, 0, "ab.c");
        check.sameChar("15: the letter", hall.drop(0, 1), 'b');
        check.sameText("15: the days", Halls.days(hall, 0, 0, 5), "a..c.");
        check.sameChar("15: the first day", hall.drop(0, 0), 'a');
        check.sameText("15: the days again", Halls.days(hall, 0, 0, 5), "...c.");
        check.failsElement("15: dropped", hall, () -> hall.drop(0, 1));
        check.failsElement("15: a rest", hall, () -> hall.drop(0, 2));
        check.failsElement("15: the last day", hall, () -> hall.drop(0, 239));
        check.failsIndex("15: athlete 1", hall, () -> hall.drop(1, 0));
        check.failsIndex("15: athlete -1", hall, () -> hall.drop(-1, -1));
        check.failsArgument("15: day -1", hall, () -> hall.drop(0, -1));
        check.failsArgument("15: day 240", hall, () -> hall.drop(0, 240));
        hall.pass(1);
        check.failsArgument("15: a day that went by", hall, () -> hall.drop(0, 0));
        hall.pass(2);
        check.sameChar("15: the day of now", hall.drop(0, 3), 'c');
        hall.pass(1);
        check.same("15: nothing is felt", hall.felt(0, 3), 0);
    }

    private static void planned() {
        Taperhall hall = ready();
        Halls.plan(hall, 0, 1, "a");
        check.sameChar("16: planned", hall.planned(0, 1), 'a');
        check.sameChar("16: none", hall.planned(0, 0), '.');
        check.sameChar("16: the last day", hall.planned(0, 239), '.');
        check.failsArgument("16: day -1", hall, () -> hall.planned(0, -1));
        check.failsArgument("16: day 240", hall, () -> hall.planned(0, 240));
        check.failsIndex("16: athlete 1", hall, () -> hall.planned(1, 0));
        check.failsIndex("16: athlete -1, out of range", hall, () -> hall.planned(-1, 240));
        hall.ill(0, 3);
        hall.pass(2);
        check.sameChar("16: as it went by, though not done", hall.planned(0, 1), 'a');
    }

    private static void felt() {
        Taperhall hall = ready();
        hall.session();
        hall.set('d', 1, 3, 0);
        hall.set('d', 1, 4, 0);
        Halls.plan(hall, 0, 0, "a.d");
        hall.pass(3);
        check.same("17: a session", hall.felt(0, 0), 60);
        check.same("17: a rest", hall.felt(0, 1), 0);
        check.same("17: a quarter, cut once", hall.felt(0, 2), 1);
        check.failsElement("17: the day of now", hall, () -> hall.felt(0, 3));
        check.failsElement("17: the last day", hall, () -> hall.felt(0, 239));
        check.failsArgument("17: day -1", hall, () -> hall.felt(0, -1));
        check.failsArgument("17: day 240", hall, () -> hall.felt(0, 240));
        check.failsIndex("17: athlete 1", hall, () -> hall.felt(1, 0));
        check.failsIndex("17: athlete -1, out of range", hall, () -> hall.felt(-1, 240));
        hall.set('a', 5, 60, 0);
        check.same("17: as it was felt then", hall.felt(0, 0), 60);
    }

    private static void peak() {
        Taperhall hall = ready();
        check.same("18: none", hall.peak(0), 0);
        Halls.plan(hall, 0, 10, "a.....b.a");
        check.same("18: seven days", hall.peak(0), 100);
        Halls.plan(hall, 0, 233, "a.....b");
        check.same("18: the last seven days", hall.peak(0), 100);
        Halls.plan(hall, 0, 0, "aab");
        check.same("18: the first days", hall.peak(0), 160);
        check.failsIndex("18: athlete 1", hall, () -> hall.peak(1));
        check.failsIndex("18: athlete -1", hall, () -> hall.peak(-1));
    }

    private static void peakOfDone() {
        Taperhall hall = ready();
        hall.setLanes(0);
        Halls.plan(hall, 0, 0, "c.....ab");
        check.same("18: planned wholly", hall.peak(0), 225);
        hall.pass(1);
        check.same("18: done by half", hall.peak(0), 142);
        hall.pass(1);
        Taperhall other = ready();
        Halls.plan(other, 0, 0, "c..a");
        other.pass(3);
        other.ill(0, 1);
        check.same("18: planned, though ill", other.peak(0), 225);
        other.pass(1);
        check.same("18: not done", other.peak(0), 165);
        check.holds("18: sound", other.isSound());
    }
}
