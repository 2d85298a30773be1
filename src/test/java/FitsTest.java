import java.util.ArrayList;
import java.util.List;

/** Promises 28 to 32: tests that lie, fits with their rivals, and forecasts. */
public final class FitsTest {
    private static final Check check = new Check("FitsTest");

    private FitsTest() {
    }

    public static void main(String[] args) {
        setError();
        test();
        testOfMost();
        tooFewTests();
        wrong();
        exactFit();
        fitsOfLyingTests();
        likeFits();
        answersAfterTests();
        baseCutTowardZero();
        forecast();
        forecastRanges();
        check.end();
    }

    private static void setError() {
        Taperhall hall = new Taperhall();
        check.same("28: at first", hall.setError(99), 0);
        check.same("28: most", hall.setError(0), 99);
        check.failsArgument("28: -1", hall, () -> hall.setError(-1));
        check.failsArgument("28: 100", hall, () -> hall.setError(100));
        check.same("28: as before", hall.setError(5), 0);
    }

    private static void test() {
        Taperhall hall = new Taperhall();
        hall.athlete(0, 0, 700, 20, 3);
        hall.seed(100);
        long z = 100;
        for (int error : new int[] {0, 1, 7, 50, 99}) {
            hall.setError(error);
            z = Halls.after(z);
            check.same("29: by the error " + error, hall.test(0), 700 + z % (2 * error + 1) - error);
        }
        check.same("29: z is drawn each time", hall.seed(1), z);
        check.failsIndex("29: athlete 1", hall, () -> hall.test(1));
        check.failsIndex("29: athlete -1", hall, () -> hall.test(-1));
        hall.setError(0);
        hall.ill(0, 1);
        hall.camp(0, 5);
        check.same("29: who is ill is tested too", hall.test(0), 700);
        hall.pass(5);
        check.same("29: a camp is in it", hall.test(0), 695);
    }

    private static void testOfMost() {
        Taperhall hall = new Taperhall();
        hall.athlete(0, 0, 700, 20, 3);
        hall.athlete(0, 0, 800, 20, 3);
        for (int count = 0; count < 12; count++) {
            check.same("29: one of twelve", hall.test(0), 700);
        }
        check.failsState("29: the thirteenth", hall, () -> hall.test(0));
        check.same("29: of another one", hall.test(1), 800);
    }

    private static void tooFewTests() {
        Taperhall hall = new Taperhall();
        hall.athlete(0, 0, 700, 20, 3);
        for (int count = 0; count < 3; count++) {
            check.failsUnsupported("30: few", hall, () -> hall.rivals(0));
            check.failsUnsupported("31: few", hall, () -> hall.fit(0, -1, 'f'));
            check.failsUnsupported("31: few, no such rival", hall, () -> hall.fit(0, 200, 'f'));
            check.failsUnsupported("32: few", hall, () -> hall.forecast(0, -1, 5));
            check.failsUnsupported("32: few, no such rival", hall, () -> hall.forecast(0, 200, 5));
            for (int below : new int[] {-2, -14, Integer.MIN_VALUE}) {
                check.failsUnsupported("31: few, rival " + below, hall, () -> hall.fit(0, below, 'f'));
                check.failsUnsupported("32: few, rival " + below, hall, () -> hall.forecast(0, below, 5));
            }
            hall.test(0);
        }
        check.same("30: all fits are alike", hall.rivals(0), 143);
    }

    private static void wrong() {
        Taperhall hall = new Taperhall();
        hall.athlete(0, 0, 700, 20, 3);
        check.failsIndex("30: athlete 1", hall, () -> hall.rivals(1));
        check.failsIndex("30: athlete -1", hall, () -> hall.rivals(-1));
        check.failsIndex("31: athlete 1", hall, () -> hall.fit(1, 0, 'q'));
        check.failsIndex("31: athlete -1", hall, () -> hall.fit(-1, 0, 'f'));
        check.failsArgument("31: no such thing", hall, () -> hall.fit(0, 0, 'q'));
        check.failsIndex("32: athlete 1", hall, () -> hall.forecast(1, 0, -1));
        check.failsIndex("32: athlete -1", hall, () -> hall.forecast(-1, 0, 0));
        check.failsArgument("32: day -1", hall, () -> hall.forecast(0, 0, -1));
        check.failsArgument("32: day 240", hall, () -> hall.forecast(0, 0, 240));
        check.failsIndex("32: athlete 1, rival -2", hall, () -> hall.forecast(1, -2, 0));
        check.failsArgument("32: day 240, rival -2", hall, () -> hall.forecast(0, -2, 240));
        for (int count = 0; count < 3; count++) {
            hall.test(0);
        }
        check.failsArgument("31: no such thing still", hall, () -> hall.fit(0, 0, 'F'));
        check.failsElement("31: rival 143", hall, () -> hall.fit(0, 143, 'f'));
        check.failsElement("32: rival 143", hall, () -> hall.forecast(0, 143, 0));
        for (int below : new int[] {-2, -14, Integer.MIN_VALUE}) {
            check.failsElement("31: rival " + below, hall, () -> hall.fit(0, below, 'f'));
            check.failsElement("32: rival " + below, hall, () -> hall.forecast(0, below, 0));
        }
        check.failsArgument("32: day 240, rival -2 still", hall, () -> hall.forecast(0, -2, 240));
        check.same("31: rival 142", hall.fit(0, 142, 'f') * 100 + hall.fit(0, 142, 'g'), 6015);
    }

    /** A hall whose athlete does hard weeks and easy ones, tested every some days. */
    private static Taperhall tested(int formPace, int fatiguePace, int error, int tests) {
        Taperhall hall = new Taperhall();
        Halls.session(hall, 3, 60);
        Halls.session(hall, 2, 50);
        hall.athlete(0, 0, 1500, formPace, fatiguePace);
        hall.answers(0, 2, 5, 200);
        Halls.plan(hall, 0, 0, "3(5(a)..6(b).)");
        hall.setError(error);
        for (int count = 0; count < tests; count++) {
            hall.test(0);
            hall.pass(4);
        }
        return hall;
    }

    private static void exactFit() {
        for (int formPace : new int[] {20, 44, 60}) {
            for (int fatiguePace : new int[] {3, 8, 15}) {
                Taperhall hall = tested(formPace, fatiguePace, 0, 10);
                check.same("31: pace of form", hall.fit(0, -1, 'f'), formPace);
                check.same("31: pace of fatigue", hall.fit(0, -1, 'g'), fatiguePace);
                check.same("31: base", hall.fit(0, -1, 'b'), 1500);
                check.same("31: fault", hall.fit(0, -1, 'e'), 0);
                check.same("30: no rival but itself", hall.rivals(0), 1);
                check.same("32: of now", hall.forecast(0, 0, hall.today()), hall.body(0, 'r'));
            }
        }
    }

    /** Form less fatigue by paces and answers, as the day begins. */
    private static long level(List<Integer> loads, int day, int[] paces, int gain, int cost) {
        long form = 0;
        long fatigue = 0;
        for (int load : loads.subList(0, day)) {
            form += (long) gain * load;
            form -= form / paces[0];
            fatigue += (long) cost * load;
            fatigue -= fatigue / paces[1];
        }
        return form - fatigue;
    }

    private static List<Integer> felt(Taperhall hall, int athlete) {
        List<Integer> loads = new ArrayList<>();
        for (int day = 0; day < hall.today(); day++) {
            loads.add(hall.felt(athlete, day));
        }
        return loads;
    }

    /** Rows of paces, base and fault for all fits in order. */
    private static List<long[]> allFits(List<Integer> loads, int[] days, int[] tells, int gain, int cost) {
        List<long[]> all = new ArrayList<>();
        for (int form = 20; form <= 60; form += 4) {
            for (int fatigue = 3; fatigue <= 15; fatigue++) {
                long sum = 0;
                for (int test = 0; test < days.length; test++) {
                    sum += tells[test] - level(loads, days[test], new int[] {form, fatigue}, gain, cost);
                }
                long base = sum / days.length;
                long fault = 0;
                for (int test = 0; test < days.length; test++) {
                    long left = tells[test] - level(loads, days[test], new int[] {form, fatigue}, gain, cost) - base;
                    fault += left * left;
                }
                all.add(new long[] {form, fatigue, base, fault});
            }
        }
        return all;
    }

    private static void checkFits(String what, Taperhall hall, List<long[]> all) {
        long[] best = all.get(0);
        for (long[] one : all) {
            best = one[3] < best[3] ? one : best;
        }
        checkFit(what + " best", hall, -1, best);
        int rivals = 0;
        for (long[] one : all) {
            if (one[3] <= 2 * best[3]) {
                checkFit(what + " rival " + rivals, hall, rivals, one);
                rivals++;
            }
        }
        check.same("30: " + what, hall.rivals(0), rivals);
        int beyond = rivals;
        check.failsElement("31: " + what + " beyond", hall, () -> hall.fit(0, beyond, 'b'));
        check.failsElement("32: " + what + " beyond", hall, () -> hall.forecast(0, beyond, 239));
    }

    private static void checkFit(String what, Taperhall hall, int rival, long[] due) {
        for (int index = 0; index < 4; index++) {
            char thing = "fgbe".charAt(index);
            check.same("31: " + what + " " + thing, hall.fit(0, rival, thing), due[index]);
        }
    }

    private static void fitsOfLyingTests() {
        for (int error : new int[] {3, 20, 99}) {
            for (int tests : new int[] {3, 5, 12}) {
                Taperhall hall = new Taperhall();
                hall.seed(error * 1000 + tests);
                Halls.session(hall, 3, 60);
                Halls.session(hall, 2, 50);
                hall.athlete(0, 0, 300, 31, 6);
                hall.answers(0, 2, 5, 200);
                Halls.plan(hall, 0, 0, "3(5(a)..6(b).)");
                hall.setError(error);
                int[] days = new int[tests];
                int[] tells = new int[tests];
                for (int test = 0; test < tests; test++) {
                    days[test] = hall.today();
                    tells[test] = hall.test(0);
                    if (test % 3 != 1) {
                        hall.pass(1 + test);
                    }
                }
                checkFits("error " + error + " tests " + tests, hall, allFits(felt(hall, 0), days, tells, 2, 5));
            }
        }
    }

    private static void likeFits() {
        // Without loads all fits are alike: the best is the first, and a fault of 0 leaves the like ones only.
        Taperhall hall = new Taperhall();
        hall.athlete(0, 0, 700, 60, 15);
        hall.setError(9);
        int[] tells = {hall.test(0), hall.test(0), hall.test(0), hall.test(0)};
        checkFits("no loads", hall, allFits(felt(hall, 0), new int[4], tells, 1, 1));
        check.same("31: the least pace of form", hall.fit(0, -1, 'f'), 20);
        check.same("31: the least pace of fatigue", hall.fit(0, -1, 'g'), 3);
    }

    private static void answersAfterTests() {
        Taperhall hall = tested(32, 7, 0, 6);
        int[] days = {0, 4, 8, 12, 16, 20};
        int[] tells = new int[6];
        for (int test = 0; test < 6; test++) {
            tells[test] = (int) (1500 + level(felt(hall, 0), days[test], new int[] {32, 7}, 2, 5));
        }
        checkFits("before", hall, allFits(felt(hall, 0), days, tells, 2, 5));
        hall.answers(0, 9, 1, 200);
        checkFits("the gain and the cost of now", hall, allFits(felt(hall, 0), days, tells, 9, 1));
        hall.answers(0, 9, 4, 20);
        checkFits("the cost of now", hall, allFits(felt(hall, 0), days, tells, 9, 4));
        hall.pass(3);
        int seventh = hall.test(0);
        int[] more = {0, 4, 8, 12, 16, 20, hall.today()};
        int[] told = java.util.Arrays.copyOf(tells, 7);
        told[6] = seventh;
        checkFits("another test", hall, allFits(felt(hall, 0), more, told, 9, 4));
    }

    private static void baseCutTowardZero() {
        // A fatigue above the base makes tests tell less than 0, so that the sum is below it.
        Taperhall hall = new Taperhall();
        hall.athlete(0, 0, 0, 20, 3);
        hall.camp(0, 1);
        hall.pass(1);
        int[] tells = {hall.test(0), hall.test(0), 0};
        hall.camp(0, 5);
        tells[2] = hall.test(0);
        check.same("29: a loss", tells[0], -1);
        check.same("29: none in the camp", tells[2], 0);
        check.same("31: cut toward 0", hall.fit(0, -1, 'b'), 0);
        check.same("31: the fault of it", hall.fit(0, -1, 'e'), 2);
        checkFits("below 0", hall, allFits(felt(hall, 0), new int[] {1, 1, 1}, tells, 1, 1));
    }

    private static void forecast() {
        Taperhall hall = tested(28, 9, 40, 8);
        hall.setLanes(0);
        hall.session();
        hall.set('c', 5, 30, 0);
        int today = hall.today();
        Halls.plan(hall, 0, today, "c.a9(b)");
        hall.camp(0, 9);
        hall.ill(0, 9);
        List<Integer> loads = felt(hall, 0);
        for (int day = today; day < 239; day++) {
            char letter = hall.planned(0, day);
            loads.add(letter == '.' ? 0 : hall.load(letter, 't') / 4);
        }
        for (int rival = -1; rival < hall.rivals(0); rival++) {
            int[] paces = {(int) hall.fit(0, rival, 'f'), (int) hall.fit(0, rival, 'g')};
            for (int day : new int[] {today, today + 1, today + 2, today + 12, today + 25, 239}) {
                long due = hall.fit(0, rival, 'b') + level(loads, day, paces, 2, 5);
                check.same("32: rival " + rival + " day " + day, hall.forecast(0, rival, day), due);
            }
        }
    }

    private static void forecastRanges() {
        Taperhall hall = tested(28, 9, 0, 3);
        int today = hall.today();
        check.failsArgument("32: a day that went by", hall, () -> hall.forecast(0, -1, today - 1));
        check.failsArgument("32: beyond the last day", hall, () -> hall.forecast(0, -1, 240));
        check.same("32: the last day", hall.forecast(0, -1, 239), hall.forecast(0, -1, 239));
        check.same("32: nothing changes by it", hall.today(), today);
    }
}
