import java.io.IOException;
import java.util.function.IntFunction;

/** The sentences of the terms on days, sessions, plans and athletes: a test for each, at the bounds that it names. */
public final class PlansTermsTest {
    private static final Check check = new Check("PlansTermsTest");

    private final Document document;

    private PlansTermsTest() throws IOException {
        document = new Document(check);
    }

    public static void main(String[] args) throws IOException {
        PlansTermsTest test = new PlansTermsTest();
        check.same("paragraphs of terms", test.document.count("Terms"), 13);
        test.days();
        test.sessions();
        test.plans();
        test.athletes();
        check.end();
    }

    // Days.

    private void days() {
        document.quote("Terms, Days", "They are counted from 0 to 239; the day of now is 0 at first.");
        firstAndLastDay();
        document.quote("Terms, Days", "What is planned for a day is done as that day goes by.");
        doneAsTheDayGoesBy();
        theLastDayNeverGoesBy();
        document.allQuoted("Terms, Days", "Days\\.");
    }

    private static void firstAndLastDay() {
        Taperhall hall = new Taperhall();
        Halls.athlete(hall, 0, 0);
        check.same("the day of now at first", hall.today(), 0);
        check.failsArgument("day -1", hall, () -> hall.planned(0, -1));
        check.sameChar("day 0", hall.planned(0, 0), '.');
        check.sameChar("day 239", hall.planned(0, 239), '.');
        check.failsArgument("day 240", hall, () -> hall.planned(0, 240));
        Halls.passTo(hall, 238);
        check.same("the last day comes", hall.pass(1), 239);
        check.failsState("no day comes behind it", hall, () -> hall.pass(1));
        check.failsState("nor thirty", hall, () -> hall.pass(30));
    }

    private static void doneAsTheDayGoesBy() {
        Taperhall hall = new Taperhall();
        Halls.session(hall, 3, 60);
        Halls.athlete(hall, 0, 0);
        Halls.plan(hall, 0, 0, "a");
        check.same("not done ahead of it", hall.body(0, 'f'), 0);
        check.failsElement("not felt ahead of it", hall, () -> hall.felt(0, 0));
        hall.pass(1);
        check.same("done behind it", hall.felt(0, 0), 60);
        check.same("in the form", hall.body(0, 'f'), 57);
        Halls.plan(hall, 0, 1, "a");
        hall.drop(0, 1);
        hall.pass(1);
        check.same("dropped on the day itself", hall.felt(0, 1), 0);
        Halls.plan(hall, 0, 2, "a");
        hall.shift(0, 2, 1);
        hall.pass(1);
        check.same("shifted on the day itself", hall.felt(0, 2), 0);
        hall.pass(1);
        check.same("to the next one", hall.felt(0, 3), 60);
    }

    private static void theLastDayNeverGoesBy() {
        Taperhall hall = new Taperhall();
        Halls.session(hall, 3, 60);
        Halls.athlete(hall, 0, 0);
        Halls.plan(hall, 0, 238, "aa");
        Halls.passTo(hall, 239);
        check.same("the day 238 is done", hall.felt(0, 238), 60);
        check.failsElement("the day 239 is not", hall, () -> hall.felt(0, 239));
        check.same("nor is it in the form", hall.body(0, 'f'), 57);
        check.same("but it counts as planned", hall.peak(0), 120);
    }

    // Sessions.

    private void sessions() {
        String section = "Terms, Sessions";
        document.quote(section, "At most 10 are called 'a' to 'j', in the order in which they came, each of at most 6");
        tenSessions();
        sixSetsEach();
        document.quote(section, "'r' the same of each set less its rest, 0 at least, summed up");
        restOfEachSet();
        weightsOfZones();
        document.quote(section, "times that of the other one, divided by that of the one, cut.");
        turnedBySums();
        document.quote(section, "What a body feels is a quarter of the load in 't', cut.");
        quarters();
        document.quote(section, "A session is hard if it has a set of the zone 5.");
        hardByOneSet();
        document.allQuoted(section, "Sessions\\.");
    }

    private static void tenSessions() {
        Taperhall hall = new Taperhall();
        check.failsArgument("no session a yet", hall, () -> hall.load('a', 'm'));
        for (int count = 0; count < 10; count++) {
            check.sameChar("session " + count, hall.session(), "abcdefghij".charAt(count));
            char next = (char) ('b' + count);
            check.failsArgument("no session " + next, hall, () -> hall.load(next, 'm'));
        }
        check.failsState("an eleventh", hall, () -> hall.session());
        check.failsState("and again", hall, () -> hall.session());
    }

    private static void sixSetsEach() {
        Taperhall hall = new Taperhall();
        hall.session();
        hall.session();
        for (int count = 1; count <= 6; count++) {
            check.same("sets of a", hall.set('a', 1, 1, 0), count);
        }
        check.failsState("a seventh", hall, () -> hall.set('a', 1, 1, 0));
        check.same("the first of b", hall.set('b', 1, 1, 0), 1);
        check.failsState("still no seventh of a", hall, () -> hall.set('a', 5, 60, 30));
        check.same("the load of six", hall.load('a', 'm'), 6);
    }

    private static void restOfEachSet() {
        int[][] rows = {{9, 1}, {10, 0}, {11, 0}, {30, 0}, {0, 10}};
        for (int[] row : rows) {
            Taperhall hall = new Taperhall();
            hall.session();
            hall.set('a', 2, 5, row[0]);
            check.same("ten less a rest of " + row[0], hall.load('a', 'r'), row[1]);
            check.same("the rest is not in m", hall.load('a', 'm'), 10);
            hall.set('a', 1, 7, 3);
            check.same("each set for itself", hall.load('a', 'r'), row[1] + 4);
        }
    }

    private static void weightsOfZones() {
        Taperhall hall = new Taperhall();
        hall.session();
        int[] sums = {1, 3, 7, 14, 25};
        int[] zones = {1, 3, 6, 10, 15};
        for (int zone = 1; zone <= 5; zone++) {
            hall.set('a', zone, 1, 0);
            check.same("t up to the zone " + zone, hall.load('a', 't'), sums[zone - 1]);
            check.same("m up to the zone " + zone, hall.load('a', 'm'), zones[zone - 1]);
        }
        hall.set('a', 5, 60, 30);
        check.same("t with the longest", hall.load('a', 't'), 25 + 660);
        check.same("m with the longest", hall.load('a', 'm'), 15 + 300);
        check.same("r with the longest", hall.load('a', 'r'), 15 + 270);
    }

    private static void turnedBySums() {
        Taperhall hall = new Taperhall();
        hall.session();
        check.failsArithmetic("a session without sets sums up to 0", hall, () -> hall.turn(5, 'm', 't'));
        hall.set('a', 1, 3, 0);
        hall.session();
        hall.set('b', 2, 2, 30);
        // The sums: 7 in m, 3 in r, 7 in t.
        check.same("r to m, 0", hall.turn(0, 'r', 'm'), 0);
        check.same("m to r, cut to 0", hall.turn(2, 'm', 'r'), 0);
        check.same("m to r, just 1", hall.turn(3, 'm', 'r'), 1);
        check.same("m to r, cut to 2", hall.turn(6, 'm', 'r'), 2);
        check.same("m to r, just 3", hall.turn(7, 'm', 'r'), 3);
        check.same("r to m, cut", hall.turn(1, 'r', 'm'), 2);
        check.same("the most of r to m", hall.turn(99999, 'r', 'm'), 233331);
        check.same("m to t, of the same sum", hall.turn(99999, 'm', 't'), 99999);
    }

    private static void quarters() {
        int[][] rows = {{1, 0}, {3, 0}, {4, 1}, {7, 1}, {8, 2}, {60, 15}};
        for (int[] row : rows) {
            Taperhall hall = new Taperhall();
            Halls.session(hall, 1, row[0]);
            Halls.athlete(hall, 0, 0);
            Halls.plan(hall, 0, 0, "a");
            check.same("of " + row[0] + " planned", hall.peak(0), row[1]);
            hall.pass(1);
            check.same("of " + row[0] + " felt", hall.felt(0, 0), row[1]);
        }
        Taperhall hall = new Taperhall();
        hall.session();
        hall.set('a', 1, 2, 30);
        hall.set('a', 2, 3, 30);
        Halls.athlete(hall, 0, 0);
        Halls.plan(hall, 0, 0, "a");
        hall.pass(1);
        check.same("of the sum of sets, rests aside", hall.felt(0, 0), 2);
    }

    private static void hardByOneSet() {
        int[][] zones = {{4, 4, 4, 4, 4, 4}, {5}, {5, 1}, {1, 5}, {1, 2, 3, 4}, {4, 4, 4, 4, 4, 5}, {5, 5}};
        for (int[] of : zones) {
            Taperhall hall = new Taperhall();
            hall.session();
            boolean hard = false;
            for (int zone : of) {
                hall.set('a', zone, 8, 0);
                hard = hard || zone == 5;
            }
            hall.setLanes(0);
            Halls.athlete(hall, 0, 0);
            Halls.plan(hall, 0, 0, "a");
            hall.pass(1);
            int all = hall.load('a', 't') / 4;
            check.same("zones " + java.util.Arrays.toString(of), hall.felt(0, 0), hard ? all / 2 : all);
            check.sameText("its change", Halls.changes(hall, 0), hard ? "a0 h0" : "a0");
        }
        Taperhall hall = new Taperhall();
        hall.session();
        hall.setLanes(0);
        Halls.athlete(hall, 0, 0);
        Halls.plan(hall, 0, 0, "a");
        hall.pass(1);
        check.sameText("without sets it is not hard", Halls.changes(hall, 0), "a0");
    }

    // Plans.

    private void plans() {
        String section = "Terms, Plans";
        document.quote(section, "A plan is typed, at most 24 characters");
        atMost24();
        countsFrom2To9();
        somethingInIt();
        threeDeep();
        document.quote(section, "It unfolds to days, one for each letter or rest, 60 at most.");
        sixtyDays();
        document.quote(section, "A fault is told by the place, from 0, of the first character that cannot stand there");
        firstThatCannotStand();
        lengthIfMoreIsNeeded();
        lengthIfTooLong();
        sessionsThatAreThere();
        document.allQuoted(section, "Plans\\.");
    }

    private static void faultIs(Taperhall hall, String plan, int due) {
        Halls.type(hall, plan);
        check.same("the fault of " + plan, hall.fault(), due);
        if (due >= 0) {
            check.failsState("no days of " + plan, hall, () -> hall.unfolds());
        }
    }

    private static void unfoldsTo(Taperhall hall, String plan, int due) {
        faultIs(hall, plan, -1);
        check.same("the days of " + plan, hall.unfolds(), due);
    }

    private static void atMost24() {
        Taperhall hall = new Taperhall();
        hall.session();
        String plan = "2(a.)2(a.)2(a.)2(a.)aaaa";
        unfoldsTo(hall, plan, 20);
        check.failsState("a 25th character", hall, () -> hall.type('a'));
        check.failsState("a 25th that ends nothing", hall, () -> hall.type(')'));
        check.same("24 stay", hall.wipe(), 24);
        faultIs(hall, "aaaaaaaaaaaaaaaaaaaaaaa2", 24);
        faultIs(hall, "aaaaaaaaaaaaaaaaaaaaa2(a", 24);
        faultIs(hall, "aaaaaaaaaaaaaaaaaaaaaaa(", 23);
        unfoldsTo(hall, "aaaaaaaaaaaaaaaaaaaa2(a)", 22);
    }

    private static void countsFrom2To9() {
        Taperhall hall = new Taperhall();
        hall.session();
        check.failsArgument("1 is no character of a plan", hall, () -> hall.type('1'));
        check.failsArgument("nor is 0", hall, () -> hall.type('0'));
        for (int count = 2; count <= 9; count++) {
            unfoldsTo(hall, count + "(a)", count);
            unfoldsTo(hall, count + "(2(a).)", 3 * count);
        }
        faultIs(hall, "2a", 1);
        faultIs(hall, "22(a)", 1);
        faultIs(hall, "a2)", 2);
        faultIs(hall, "(a)", 0);
        faultIs(hall, "a(a)", 1);
        faultIs(hall, "2(a)(a)", 4);
    }

    private static void somethingInIt() {
        Taperhall hall = new Taperhall();
        hall.session();
        faultIs(hall, "", 0);
        check.failsState("nothing is typed", hall, () -> hall.unfolds());
        faultIs(hall, "2()", 2);
        faultIs(hall, "a2()a", 3);
        faultIs(hall, "2(a2())", 5);
        faultIs(hall, "2(2()a)", 4);
        unfoldsTo(hall, "2(.)", 2);
        unfoldsTo(hall, "2(2(a))", 4);
        unfoldsTo(hall, ".", 1);
    }

    private static void threeDeep() {
        Taperhall hall = new Taperhall();
        hall.session();
        unfoldsTo(hall, "2(a)", 2);
        unfoldsTo(hall, "2(2(2(a)))", 8);
        faultIs(hall, "2(2(2(2(a))))", 7);
        faultIs(hall, "2(2(2(2", 7);
        faultIs(hall, "2(2(2(a2(", 8);
        faultIs(hall, "2(2(2(a)2(2(", 11);
        unfoldsTo(hall, "2(2(2(a))2(2(a)))", 16);
    }

    private static void sixtyDays() {
        Taperhall hall = new Taperhall();
        hall.session();
        unfoldsTo(hall, "6(9(a)a)", 60);
        unfoldsTo(hall, "6(9(.).)", 60);
        faultIs(hall, "6(9(a)a).", 9);
        faultIs(hall, "6(9(.).)a", 9);
        faultIs(hall, ".6(9(a)a)", 9);
        unfoldsTo(hall, "5(9(a)..a)", 60);
        unfoldsTo(hall, "a6(9(a))aaaaa", 60);
        faultIs(hall, "a6(9(a))aaaaaa", 14);
        faultIs(hall, "9(9(9(aaaaaaaaaaaaaaa)))", 24);
    }

    private static void firstThatCannotStand() {
        Taperhall hall = new Taperhall();
        hall.session();
        faultIs(hall, ")", 0);
        faultIs(hall, "z", 0);
        faultIs(hall, "a)z(", 1);
        faultIs(hall, "a.z)", 2);
        faultIs(hall, "2(a))z", 4);
        faultIs(hall, "2(z", 2);
        faultIs(hall, "9(9(a))z", 7);
        faultIs(hall, "9(9(a)))", 7);
    }

    private static void lengthIfMoreIsNeeded() {
        Taperhall hall = new Taperhall();
        hall.session();
        faultIs(hall, "2", 1);
        faultIs(hall, "a2", 2);
        faultIs(hall, "2(", 2);
        faultIs(hall, "2(a", 3);
        faultIs(hall, "2(a2", 4);
        faultIs(hall, "2(2(a)", 6);
        faultIs(hall, "2(2(2(a))", 9);
        faultIs(hall, "9(9(a)", 6);
    }

    private static void lengthIfTooLong() {
        Taperhall hall = new Taperhall();
        hall.session();
        faultIs(hall, "9(6(a))aaaaaaa", 14);
        unfoldsTo(hall, "9(6(a))aaaaaa", 60);
        faultIs(hall, "9(7(a))", 7);
        faultIs(hall, "9(9(9(a)))", 10);
        faultIs(hall, "9(7(.))a", 8);
    }

    private static void sessionsThatAreThere() {
        Taperhall hall = new Taperhall();
        faultIs(hall, "..a", 2);
        faultIs(hall, "2(.a)", 3);
        hall.session();
        check.same("it is there now", hall.fault(), -1);
        faultIs(hall, "ab", 1);
        faultIs(hall, "k", 0);
        faultIs(hall, "az", 1);
    }

    // Athletes.

    private void athletes() {
        String section = "Terms, Athletes";
        document.quote(section, "At most 8 are numbered from 0, each of a squad, 0 to 3");
        eightAthletes();
        ceilingOfAnySevenDays();
        ceilingOfDoneAndPlanned();
        ceilingWithoutComingsBack();
        document.quote(section, "A day with a load that is felt, 0 if none is, makes the form more by gain times that");
        formByItsPace();
        fatigueByItsPace();
        damageAboveTolerance();
        document.quote(section, "With a damage above 300 behind that an athlete who is not injured is, on the step 1.");
        injuredAbove300();
        document.quote(section, "One is ready by base and form, less fatigue, and what a camp gives.");
        readyByAll();
        document.allQuoted(section, "Athletes\\.");
    }

    private static void eightAthletes() {
        Taperhall hall = new Taperhall();
        for (int number = 0; number < 8; number++) {
            int next = number;
            check.failsIndex("no athlete " + number, hall, () -> hall.peak(next));
            check.same("athlete " + number, hall.athlete(number % 4, number, number, 20 + number, 3 + number), number);
        }
        check.failsState("a ninth", hall, () -> hall.athlete(0, 0, 0, 20, 3));
        check.failsIndex("no athlete 8", hall, () -> hall.peak(8));
        check.failsIndex("no athlete -1", hall, () -> hall.peak(-1));
        check.failsIndex("the last int", hall, () -> hall.peak(Integer.MAX_VALUE));
        check.failsIndex("the least int", hall, () -> hall.peak(Integer.MIN_VALUE));
    }

    /** One athlete with a ceiling of 119, and a session of 60: two of them exceed it, one does not. */
    private static Taperhall tight() {
        Taperhall hall = new Taperhall();
        Halls.session(hall, 3, 60);
        Halls.athlete(hall, 0, 0);
        hall.setCeiling(0, 119);
        Halls.type(hall, "a");
        return hall;
    }

    private static void ceilingOfAnySevenDays() {
        int[] firsts = {0, 1, 100, 226, 232};
        for (int first : firsts) {
            for (int gap = 1; gap <= 8; gap++) {
                int other = first + gap;
                if (other > 239) {
                    continue;
                }
                IntFunction<Taperhall> planned = day -> {
                    Taperhall hall = tight();
                    hall.plan(0, day);
                    return hall;
                };
                Taperhall forward = planned.apply(first);
                Taperhall backward = planned.apply(other);
                if (gap < 7) {
                    check.failsUnsupported("7 days from " + first, forward, () -> forward.plan(0, other));
                    check.failsUnsupported("7 days to " + other, backward, () -> backward.plan(0, first));
                } else {
                    check.same("not within 7 days from " + first, forward.plan(0, other), 1);
                    check.same("not within 7 days to " + other, backward.plan(0, first), 1);
                }
            }
        }
        Taperhall hall = tight();
        hall.setCeiling(0, 120);
        Halls.plan(hall, 0, 0, "aa");
        check.same("just the ceiling", hall.peak(0), 120);
    }

    private static void ceilingOfDoneAndPlanned() {
        Taperhall hall = tight();
        hall.plan(0, 3);
        hall.pass(4);
        check.failsUnsupported("done, and planned six days on", hall, () -> hall.plan(0, 9));
        hall.ill(0, 9);
        hall.plan(0, 10);
        hall.pass(6);
        check.failsUnsupported("planned for now, though ill", hall, () -> hall.plan(0, 12));
        hall.pass(1);
        check.same("not done by illness", hall.plan(0, 12), 1);
        check.same("what was done and what is planned", hall.peak(0), 60);
    }

    private static void ceilingWithoutComingsBack() {
        Taperhall hall = InjuryTest.injured(20);
        Halls.passTo(hall, 20);
        hall.comeBack(0, 200);
        hall.pass(1);
        Halls.type(hall, "b");
        check.same("990 was done", hall.setCeiling(0, 990), 9999);
        check.same("990 behind a coming back", hall.plan(0, 21), 1);
        check.same("the coming back aside", hall.peak(0), 990);
    }

    private static void formByItsPace() {
        // Felt is 25 on the first day and 0 on the next ones: 75 by the gain of 3, which fade by 20 only above 19.
        Taperhall hall = new Taperhall();
        hall.session();
        hall.set('a', 1, 60, 0);
        hall.set('a', 1, 40, 0);
        hall.athlete(0, 0, 0, 20, 15);
        hall.answers(0, 3, 1, 200);
        Halls.plan(hall, 0, 0, "a");
        int[] due = {72, 69, 66, 63, 60, 57, 55, 53, 51, 49, 47, 45, 43, 41, 39, 38, 37};
        for (int form : due) {
            hall.pass(1);
            check.same("form on the day " + hall.today(), hall.body(0, 'f'), form);
        }
        hall.pass(30);
        check.same("form below its pace stays", hall.body(0, 'f'), 19);
        hall.pass(1);
        check.same("and stays", hall.body(0, 'f'), 19);
    }

    private static void fatigueByItsPace() {
        Taperhall hall = new Taperhall();
        Halls.session(hall, 1, 40);
        hall.athlete(0, 0, 0, 60, 3);
        hall.answers(0, 1, 2, 200);
        Halls.plan(hall, 0, 0, "aa");
        int[] due = {14, 23, 16, 11, 8, 6, 4, 3, 2, 2, 2};
        for (int fatigue : due) {
            hall.pass(1);
            check.same("fatigue on the day " + hall.today(), hall.body(0, 'g'), fatigue);
        }
        check.same("form below its pace of 60", hall.body(0, 'f'), 20);
    }

    /** A hall with a session of so much felt, planned for the day 0, and a tolerance. */
    private static Taperhall loaded(int felt, int tolerance) {
        Taperhall hall = new Taperhall();
        hall.session();
        int rest = felt * 4;
        while (rest >= 7) {
            int minutes = Math.min(60, rest / 7);
            hall.set('a', 4, minutes, 0);
            rest -= 7 * minutes;
        }
        if (rest > 0) {
            hall.set('a', 1, rest, 0);
        }
        hall.athlete(0, 0, 0, 20, 3);
        hall.answers(0, 1, 1, tolerance);
        Halls.plan(hall, 0, 0, "a");
        return hall;
    }

    private static void damageAboveTolerance() {
        int[][] rows = {{20, 20, 0}, {21, 20, 1}, {27, 20, 7}, {28, 20, 7}, {29, 20, 8}, {199, 200, 0}, {200, 200, 0},
            {201, 200, 1}, {36, 20, 14}, {19, 20, 0}};
        for (int[] row : rows) {
            Taperhall hall = loaded(row[0], row[1]);
            check.same("no damage at first", hall.body(0, 'd'), 0);
            hall.pass(1);
            check.same("felt", hall.felt(0, 0), row[0]);
            check.same("damage by " + row[0] + " above " + row[1], hall.body(0, 'd'), row[2]);
            hall.pass(1);
            check.same("a rest takes an eighth", hall.body(0, 'd'), row[2] - row[2] / 8);
        }
    }

    private static void injuredAbove300() {
        // 20 + 342 leaves 300 behind the eighth, and 20 + 343 leaves 301.
        int[][] rows = {{362, 300, 0}, {363, 301, 1}, {361, 299, 0}, {364, 301, 1}};
        for (int[] row : rows) {
            Taperhall hall = loaded(row[0], 20);
            hall.pass(1);
            check.same("damage by " + row[0], hall.body(0, 'd'), row[1]);
            check.same("the step by " + row[0], hall.body(0, 's'), row[2]);
            check.sameText("the change by " + row[0], Halls.changes(hall, 0), row[2] == 1 ? "a0 x0" : "a0");
            hall.pass(1);
            check.same("no second injury", hall.changes(0), row[2] + 1);
        }
    }

    private static void readyByAll() {
        Taperhall hall = new Taperhall();
        Halls.session(hall, 3, 60);
        hall.athlete(0, 0, 0, 20, 3);
        hall.athlete(0, 0, 9999, 20, 3);
        hall.answers(0, 1, 9, 200);
        check.same("by the least base", hall.body(0, 'r'), 0);
        check.same("by the most", hall.body(1, 'r'), 9999);
        Halls.plan(hall, 0, 0, "a");
        hall.camp(0, 1);
        hall.pass(1);
        check.same("below 0", hall.body(0, 'r'), 57 - 360 - 1);
        check.same("by its parts", hall.body(0, 'r'), hall.body(0, 'f') - hall.body(0, 'g') + hall.body(0, 'c'));
        check.same("the other one as before", hall.body(1, 'r'), 9999);
    }
}
