import java.io.IOException;
import java.util.ArrayList;
import java.util.List;

/** The sentences of the terms on tests, fits, races, tapers and exceptions: a test for each, at its bounds. */
public final class RacesTermsTest {
    private static final Check check = new Check("RacesTermsTest");

    private final Document document;

    private RacesTermsTest() throws IOException {
        document = new Document(check);
    }

    public static void main(String[] args) throws IOException {
        RacesTermsTest test = new RacesTermsTest();
        test.tests();
        test.fits();
        test.races();
        test.tapers();
        check.end();
    }

    // Tests.

    private void tests() {
        document.quote("Terms, Tests", "At most 12 of an athlete are kept, each with its day");
        twelveTests();
        eachWithItsDay();
        restByTwiceTheError();
        document.quote("Terms, Tests", "The error is 0 to 99, 0 at first.");
        errors();
        document.allQuoted("Terms, Tests", "Tests\\.");
    }

    private static void twelveTests() {
        Taperhall hall = new Taperhall();
        Halls.athlete(hall, 0, 0);
        Halls.athlete(hall, 0, 0);
        for (int count = 0; count < 12; count++) {
            check.same("test " + count, hall.test(0), 1000);
            hall.pass(1);
        }
        check.failsState("a thirteenth", hall, () -> hall.test(0));
        hall.pass(30);
        check.failsState("a thirteenth on a later day", hall, () -> hall.test(0));
        check.same("the first of another one", hall.test(1), 1000);
        check.same("thirteen draws", hall.seed(1), drawn(1, 13));
    }

    private static long drawn(long z, int times) {
        long one = z;
        for (int count = 0; count < times; count++) {
            one = Halls.after(one);
        }
        return one;
    }

    private static void eachWithItsDay() {
        // A load on the day 0: tests on the day 0, as it begins, do not have it, and those on the day 1 have.
        Taperhall hall = new Taperhall();
        Halls.session(hall, 3, 60);
        hall.athlete(0, 0, 500, 20, 3);
        hall.answers(0, 2, 1, 200);
        Halls.plan(hall, 0, 0, "a");
        check.same("as the day begins", hall.test(0), 500);
        hall.pass(1);
        check.same("as the next one begins", hall.test(0), 500 + 114 - 40);
        check.same("twice a day", hall.test(0), 500 + 114 - 40);
        check.same("by the days of the tests", hall.fit(0, -1, 'e'), 0);
        check.same("base", hall.fit(0, -1, 'b'), 500);
    }

    private static void restByTwiceTheError() {
        for (int error : new int[] {0, 1, 2, 49, 98, 99}) {
            int least = Integer.MAX_VALUE;
            int most = Integer.MIN_VALUE;
            for (int rest : new int[] {0, 1, error, 2 * error}) {
                int z = 1;
                while (Halls.after(z) % (2 * error + 1) != rest % (2 * error + 1)) {
                    z++;
                }
                Taperhall hall = new Taperhall();
                hall.athlete(0, 0, 300, 20, 3);
                hall.setError(error);
                hall.seed(z);
                int told = hall.test(0);
                check.same("error " + error + " rest " + rest, told, 300 + rest % (2 * error + 1) - error);
                check.same("z is drawn once", hall.seed(1), Halls.after(z));
                least = Math.min(least, told);
                most = Math.max(most, told);
            }
            check.same("the least by the error " + error, least, 300 - error);
            check.same("the most by the error " + error, most, 300 + error);
        }
    }

    private static void errors() {
        Taperhall hall = new Taperhall();
        Halls.athlete(hall, 0, 0);
        check.same("no error at first", hall.test(0), 1000);
        check.same("0 at first", hall.setError(99), 0);
        check.failsArgument("100", hall, () -> hall.setError(100));
        check.failsArgument("-1", hall, () -> hall.setError(-1));
        check.same("99 stays", hall.setError(0), 99);
        check.same("none again", hall.test(0), 1000);
    }

    // Fits.

    private void fits() {
        String section = "Terms, A fit";
        document.quote(section, "A fit is a pace of form of 20, 24 and so on to 60, and one of fatigue of 3 to 15.");
        allFitsInOrder();
        document.quote(section, "By it, and the gain and the cost of now, and all loads that were felt");
        gainAndCostOfNow();
        allLoadsThatWereFelt();
        baseIsCutTowardZero();
        faultOfWhatIsLeft();
        document.quote(section, "The best has the least fault, of like ones the least pace of form, then of fatigue");
        bestOfLikeOnes();
        rivalsOfTwiceTheFault();
        rivalsOfNoFault();
        document.allQuoted(section);
    }

    private static void allFitsInOrder() {
        Taperhall hall = new Taperhall();
        Halls.athlete(hall, 0, 0);
        for (int count = 0; count < 3; count++) {
            hall.test(0);
        }
        check.same("eleven by thirteen", hall.rivals(0), 143);
        for (int rival = 0; rival < 143; rival++) {
            check.same("form of " + rival, hall.fit(0, rival, 'f'), 20 + 4 * (rival / 13));
            check.same("fatigue of " + rival, hall.fit(0, rival, 'g'), 3 + rival % 13);
        }
        check.failsElement("no other", hall, () -> hall.fit(0, 143, 'f'));
    }

    /** A hall with sessions a of 60 and b of 25, one athlete with the plan, and tests behind so many days each. */
    private static Taperhall tested(int z, int error, String plan, int... gaps) {
        Taperhall hall = new Taperhall();
        hall.seed(z);
        Halls.session(hall, 3, 60);
        Halls.session(hall, 2, 50);
        hall.athlete(0, 0, 300, 31, 6);
        Halls.plan(hall, 0, 0, plan);
        hall.setError(error);
        for (int gap : gaps) {
            hall.pass(gap);
            hall.test(0);
        }
        return hall;
    }

    private static void gainAndCostOfNow() {
        Taperhall hall = new Taperhall();
        Halls.session(hall, 3, 60);
        hall.athlete(0, 0, 300, 20, 3);
        hall.answers(0, 5, 2, 200);
        Halls.plan(hall, 0, 0, "9(a)");
        for (int count = 0; count < 4; count++) {
            hall.pass(2);
            hall.test(0);
        }
        check.same("told by the same answers", hall.fit(0, -1, 'e'), 0);
        hall.answers(0, 4, 2, 200);
        check.holds("a fault by another gain", hall.fit(0, -1, 'e') > 0);
        hall.answers(0, 5, 3, 200);
        check.holds("a fault by another cost", hall.fit(0, -1, 'e') > 0);
        hall.answers(0, 5, 2, 20);
        check.same("none by another tolerance", hall.fit(0, -1, 'e'), 0);
        check.same("and the base is told", hall.fit(0, -1, 'b'), 300);
    }

    private static void allLoadsThatWereFelt() {
        // Halves, days that were not done, and comings back: the true paces leave nothing of what tests told.
        Taperhall hall = InjuryTest.injured(20);
        hall.setLanes(0);
        hall.test(0);
        Halls.plan(hall, 0, 1, "9(a)");
        for (int step = 1; step <= 4; step++) {
            hall.comeBack(0, 20 * step);
            hall.pass(1);
            hall.test(0);
        }
        Halls.plan(hall, 0, hall.today(), "b");
        hall.pass(1);
        hall.test(0);
        check.same("half was felt", hall.felt(0, 5), 495);
        check.same("fault", hall.fit(0, -1, 'e'), 0);
        check.same("base", hall.fit(0, -1, 'b'), 1000);
        check.same("form", hall.fit(0, -1, 'f'), 20);
        check.same("fatigue", hall.fit(0, -1, 'g'), 5);
    }

    private static void baseIsCutTowardZero() {
        int[][] rows = {{0, 0, 1}, {0, 1, 1}, {0, 0, 2}, {1, 1, 1}, {1, 2, 2}};
        for (int[] row : rows) {
            for (int sign = -1; sign <= 1; sign += 2) {
                Taperhall hall = hallThatTold(row, sign);
                int sum = sign * (row[0] + row[1] + row[2]);
                int base = sum / 3;
                long fault = 0;
                for (int one : row) {
                    fault += (long) (sign * one - base) * (sign * one - base);
                }
                check.same("base of the sum " + sum, hall.fit(0, -1, 'b'), base);
                check.same("fault of the sum " + sum, hall.fit(0, -1, 'e'), fault);
            }
        }
    }

    /** A hall whose tests of a base of 0 tell so much each, by errors whose rest is looked for. */
    private static Taperhall hallThatTold(int[] tells, int sign) {
        Taperhall hall = new Taperhall();
        hall.athlete(0, 0, 0, 20, 3);
        hall.setError(2);
        for (int tell : tells) {
            int z = 1;
            while (Halls.after(z) % 5 - 2 != sign * tell) {
                z++;
            }
            hall.seed(z);
            check.same("the test tells", hall.test(0), sign * tell);
        }
        return hall;
    }

    private static void faultOfWhatIsLeft() {
        Taperhall hall = hallThatTold(new int[] {2, 1, 1}, 1);
        check.same("base 4 by 3", hall.fit(0, 0, 'b'), 1);
        check.same("fault", hall.fit(0, 0, 'e'), 1);
        hall.seed(1);
        hall.setError(99);
        int told = hall.test(0);
        long base = (4 + told) / 4;
        long fault = (2 - base) * (2 - base) + 2 * (1 - base) * (1 - base) + (told - base) * (told - base);
        check.same("base with a fourth", hall.fit(0, 142, 'b'), base);
        check.same("fault with a fourth", hall.fit(0, 142, 'e'), fault);
    }

    private static void bestOfLikeOnes() {
        Taperhall hall = tested(1, 2, "9(b)", 1, 2, 3);
        List<long[]> all = allFits(hall, new int[] {1, 3, 6}, told(1, 2, "9(b)", 1, 2, 3));
        long least = leastFault(all);
        long[] first = all.stream().filter(one -> one[3] == least).findFirst().orElseThrow();
        long likes = all.stream().filter(one -> one[3] == least).count();
        check.same("like ones", likes, 6);
        check.same("the least fault", least, 6);
        check.same("its fault", hall.fit(0, -1, 'e'), least);
        check.same("the least pace of form", hall.fit(0, -1, 'f'), first[0]);
        check.same("the least pace of fatigue", hall.fit(0, -1, 'g'), first[1]);
    }

    private static void rivalsOfTwiceTheFault() {
        Taperhall hall = tested(5, 5, "a..b..a", 3, 3, 3);
        List<long[]> all = allFits(hall, new int[] {3, 6, 9}, told(5, 5, "a..b..a", 3, 3, 3));
        long least = leastFault(all);
        check.same("the least fault", hall.fit(0, -1, 'e'), least);
        check.holds("one has just twice the fault", all.stream().anyMatch(one -> one[3] == 2 * least));
        check.holds("one has 1 more", all.stream().anyMatch(one -> one[3] == 2 * least + 1));
        int rivals = 0;
        for (long[] one : all) {
            if (one[3] <= 2 * least) {
                check.same("form of the rival " + rivals, hall.fit(0, rivals, 'f'), one[0]);
                check.same("fatigue of the rival " + rivals, hall.fit(0, rivals, 'g'), one[1]);
                check.same("base of the rival " + rivals, hall.fit(0, rivals, 'b'), one[2]);
                check.same("fault of the rival " + rivals, hall.fit(0, rivals, 'e'), one[3]);
                rivals++;
            }
        }
        check.same("rivals", hall.rivals(0), rivals);
        int beyond = rivals;
        check.failsElement("no other", hall, () -> hall.fit(0, beyond, 'f'));
        check.same("of the document's 143", rivals, 19);
    }

    private static void rivalsOfNoFault() {
        Taperhall hall = tested(1, 0, "9(b)", 1, 1, 1);
        List<long[]> all = allFits(hall, new int[] {1, 2, 3}, told(1, 0, "9(b)", 1, 1, 1));
        long least = leastFault(all);
        check.same("the best leaves nothing or little", hall.fit(0, -1, 'e'), least);
        check.same("rivals of it", hall.rivals(0), all.stream().filter(one -> one[3] <= 2 * least).count());
    }

    /** What the tests of such a hall told. */
    private static int[] told(int z, int error, String plan, int... gaps) {
        Taperhall hall = tested(z, error, plan);
        int[] tells = new int[gaps.length];
        for (int index = 0; index < gaps.length; index++) {
            hall.pass(gaps[index]);
            tells[index] = hall.test(0);
        }
        return tells;
    }

    /** Rows of paces, base and fault of all fits, for a gain and a cost of 1. */
    private static List<long[]> allFits(Taperhall hall, int[] days, int[] tells) {
        List<long[]> all = new ArrayList<>();
        for (int form = 20; form <= 60; form += 4) {
            for (int fatigue = 3; fatigue <= 15; fatigue++) {
                long[] left = new long[days.length];
                long sum = 0;
                for (int test = 0; test < days.length; test++) {
                    left[test] = tells[test] - level(hall, days[test], form, fatigue);
                    sum += left[test];
                }
                long base = sum / days.length;
                long fault = 0;
                for (long one : left) {
                    fault += (one - base) * (one - base);
                }
                all.add(new long[] {form, fatigue, base, fault});
            }
        }
        return all;
    }

    private static long level(Taperhall hall, int day, int formPace, int fatiguePace) {
        long form = 0;
        long fatigue = 0;
        for (int gone = 0; gone < day; gone++) {
            form += hall.felt(0, gone);
            form -= form / formPace;
            fatigue += hall.felt(0, gone);
            fatigue -= fatigue / fatiguePace;
        }
        return form - fatigue;
    }

    private static long leastFault(List<long[]> all) {
        return all.stream().mapToLong(one -> one[3]).min().orElseThrow();
    }

    // Races.

    private void races() {
        document.quote("Terms, Races", "To race makes z drawn, and gives what one is ready by, less the rest");
        lessTheRest();
        document.quote("Terms, Races", "The standard is 0 at first; a race qualifies for good");
        standardAtFirst();
        standardOrMore();
        standardOfItsDay();
        forGood();
        document.quote("Terms, Races", "Chosen are, of those who qualified, as many as there are places");
        asManyAsPlaces();
        likeResults();
        document.allQuoted("Terms, Races", "Races\\.");
    }

    /** A z by which the rest of the next one by 21 is as asked. */
    private static int seedOfRest(int rest) {
        int z = 1;
        while (Halls.after(z) % 21 != rest) {
            z++;
        }
        return z;
    }

    private static int race(Taperhall hall, int athlete, int rest) {
        hall.seed(seedOfRest(rest));
        return hall.race(athlete);
    }

    private static void lessTheRest() {
        for (int rest = 0; rest <= 20; rest++) {
            Taperhall hall = new Taperhall();
            hall.athlete(0, 0, 400, 20, 3);
            check.same("by the rest " + rest, race(hall, 0, rest), 400 - rest);
            check.same("z is drawn once", hall.seed(1), Halls.after(seedOfRest(rest)));
        }
    }

    private static void standardAtFirst() {
        Taperhall hall = new Taperhall();
        hall.athlete(0, 0, 10, 20, 3);
        race(hall, 0, 11);
        check.same("a result below 0", hall.best(0), -1);
        check.holds("does not qualify", !hall.isQualified(0));
        race(hall, 0, 10);
        check.same("a result of 0", hall.best(0), 0);
        check.holds("qualifies", hall.isQualified(0));
    }

    private static void standardOrMore() {
        for (int standard : new int[] {-9999, -5, 0, 395, 99999}) {
            for (int more = -1; more <= 1; more++) {
                int result = Math.max(-20, Math.min(9999, standard + more));
                Taperhall hall = new Taperhall();
                int base = Math.max(0, result);
                hall.athlete(0, 0, base, 20, 3);
                hall.setStandard(standard);
                check.same("a result", race(hall, 0, base - result), result);
                check.holds(result + " by the standard " + standard, hall.isQualified(0) == (result >= standard));
            }
        }
    }

    private static void standardOfItsDay() {
        Taperhall hall = new Taperhall();
        hall.athlete(0, 0, 400, 20, 3);
        hall.setStandard(401);
        race(hall, 0, 0);
        hall.pass(1);
        hall.setStandard(400);
        check.holds("a standard of a later day does nothing", !hall.isQualified(0));
        hall.setStandard(399);
        hall.setStandard(400);
        race(hall, 0, 1);
        check.holds("less than the last one of the day", !hall.isQualified(0));
        hall.pass(30);
        race(hall, 0, 0);
        check.holds("in force until another one is set", hall.isQualified(0));
    }

    private static void forGood() {
        Taperhall hall = new Taperhall();
        hall.athlete(0, 0, 400, 20, 3);
        race(hall, 0, 0);
        hall.setStandard(99999);
        check.holds("behind a higher standard", hall.isQualified(0));
        race(hall, 0, 20);
        check.holds("behind a race below it", hall.isQualified(0));
        hall.pass(30);
        hall.ill(0, 14);
        check.holds("on a later day, and ill", hall.isQualified(0));
        check.same("and chosen", hall.selected(1, 0), 0);
    }

    private static void asManyAsPlaces() {
        Taperhall hall = new Taperhall();
        for (int number = 0; number < 8; number++) {
            hall.athlete(0, 0, 100 + number, 20, 3);
        }
        for (int places = 1; places <= 8; places++) {
            int all = places;
            check.failsElement("nobody of " + places, hall, () -> hall.selected(all, 0));
        }
        for (int number = 0; number < 8; number++) {
            race(hall, number, 3);
            check.same("the best of all so far", hall.selected(1, 0), number);
            int next = number + 1;
            check.failsElement("no more than qualified", hall, () -> hall.selected(8, next));
        }
        for (int places = 1; places <= 8; places++) {
            int all = places;
            check.same("the last of " + places, hall.selected(places, places - 1), 8 - places);
            check.failsElement("none behind " + places, hall, () -> hall.selected(all, all));
        }
    }

    private static void likeResults() {
        Taperhall hall = new Taperhall();
        hall.setStandard(100);
        for (int number = 0; number < 4; number++) {
            hall.athlete(0, 9 - number, 110, 20, 3);
        }
        race(hall, 3, 5);
        race(hall, 1, 5);
        race(hall, 2, 11);
        race(hall, 0, 6);
        check.same("the lowest number of like ones", hall.selected(8, 0), 1);
        check.same("the next one", hall.selected(8, 1), 3);
        check.same("a worse result", hall.selected(8, 2), 0);
        check.failsElement("who did not qualify", hall, () -> hall.selected(8, 3));
        race(hall, 3, 20);
        check.same("by the best result, not the last one", hall.selected(8, 1), 3);
        race(hall, 0, 5);
        check.same("like ones of three", hall.selected(8, 0), 0);
    }

    // Tapers.

    private void tapers() {
        document.quote("Terms, Tapers", "In thought the days ahead of a day, 1 to 6 of them, are done");
        oneToSixDays();
        halfIsCut();
        byThePlanAlone();
        daysUpToThem();
        document.quote("Terms, Tapers", "The best taper is that by which one is ready most on that day, as it begins");
        asTheDayBegins();
        likeTapers();
        document.allQuoted("Terms, Tapers", "Tapers\\.");
    }

    private static String choices(Taperhall hall, int day, int days) {
        StringBuilder text = new StringBuilder();
        for (int index = 0; index < days; index++) {
            text.append(hall.taperAt(0, day, days, index));
        }
        return text.toString();
    }

    /** A hall with an athlete of a base of 0 and sessions of the given loads, planned from the day 0 on. */
    private static Taperhall tapering(int formPace, int fatiguePace, int gain, int cost, int... loads) {
        Taperhall hall = new Taperhall();
        StringBuilder plan = new StringBuilder();
        for (int load : loads) {
            char letter = hall.session();
            plan.append(letter);
            for (int rest = load * 4; rest > 0; rest -= Math.min(60, rest)) {
                hall.set(letter, 1, Math.min(60, rest), 0);
            }
        }
        hall.athlete(0, 0, 0, formPace, fatiguePace);
        hall.answers(0, gain, cost, 200);
        Halls.plan(hall, 0, 0, plan.toString());
        return hall;
    }

    private static void oneToSixDays() {
        Taperhall hall = tapering(60, 3, 9, 1, 10, 10, 10, 10, 10, 10, 10);
        for (int days = 1; days <= 6; days++) {
            check.sameText("of " + days, choices(hall, 7, days), "f".repeat(days));
            int beyond = days;
            check.failsElement("no day behind " + days, hall, () -> hall.taperAt(0, 7, beyond, beyond));
        }
        check.failsArgument("of 0", hall, () -> hall.taper(0, 7, 0));
        check.failsArgument("of 7", hall, () -> hall.taper(0, 7, 7));
        Taperhall tired = tapering(20, 15, 1, 9, 10, 10, 10, 10, 10, 10, 10);
        for (int days = 1; days <= 6; days++) {
            check.sameText("none of " + days, choices(tired, 7, days), "n".repeat(days));
        }
    }

    private static void halfIsCut() {
        // One day of 29 by paces of 20 and 15: all of it, its half of 14 and none give 0, a half of 15 would give 1.
        Taperhall hall = tapering(20, 15, 1, 1, 29);
        check.same("half of 29 is 14", hall.taper(0, 1, 1), 0);
        check.sameText("all of like ones", choices(hall, 1, 1), "f");
        // One day of 30 then: all of it gives 30 - 1 less 30 - 2, and its half 15 less 15 - 1.
        Taperhall even = tapering(20, 15, 1, 1, 30);
        check.same("half of 30 is 15", even.taper(0, 1, 1), 1);
        check.sameText("half is no better", choices(even, 1, 1), "f");
        Taperhall half = tapering(42, 14, 8, 9, 6, 5, 9);
        check.same("halves of 3 and 2", half.taper(0, 3, 3), 1);
        check.sameText("halves", choices(half, 3, 3), "hhn");
    }

    private static void byThePlanAlone() {
        Taperhall hall = InjuryTest.injured(20);
        Halls.plan(hall, 0, 1, "aaa");
        long due = hall.taper(0, 4, 3);
        long up = hall.taper(0, 4, 1);
        hall.ill(0, 14);
        hall.setLanes(0);
        check.same("ill, and without lanes", hall.taper(0, 4, 3), due);
        check.same("the days up to them too", hall.taper(0, 4, 1), up);
        hall.pass(3);
        long form = hall.body(0, 'f');
        long fatigue = hall.body(0, 'g');
        check.same("by the body of now", hall.taper(0, 5, 1), ready(form, fatigue, 20, 5, 0));
    }

    /** Ready by a base of 1000 behind days of such loads. */
    private static long ready(long form, long fatigue, int formPace, int fatiguePace, int... loads) {
        long one = form;
        long other = fatigue;
        for (int load : loads) {
            one += load;
            one -= one / formPace;
            other += load;
            other -= other / fatiguePace;
        }
        return 1000 + one - other;
    }

    private static void daysUpToThem() {
        Taperhall hall = new Taperhall();
        Halls.session(hall, 3, 60);
        Halls.athlete(hall, 0, 0);
        Halls.plan(hall, 0, 0, "aaaa");
        long[] dues = {ready(0, 0, 20, 5, 60, 60, 60, 60), ready(0, 0, 20, 5, 60, 60, 60, 30),
            ready(0, 0, 20, 5, 60, 60, 60, 0)};
        long most = Math.max(dues[0], Math.max(dues[1], dues[2]));
        check.same("three days done wholly", hall.taper(0, 4, 1), most);
        check.same("the day behind is not in it", hall.taper(0, 1, 1), Math.max(ready(0, 0, 20, 5, 60), 1000));
        hall.drop(0, 1);
        check.same("a day that is dropped", hall.taper(0, 3, 1), Math.max(ready(0, 0, 20, 5, 60, 0, 60),
            Math.max(ready(0, 0, 20, 5, 60, 0, 30), ready(0, 0, 20, 5, 60, 0, 0))));
    }

    private static void asTheDayBegins() {
        Taperhall hall = tapering(60, 3, 9, 1, 10, 10);
        long before = hall.taper(0, 1, 1);
        // 90 of form less 1, and 10 of fatigue less 3.
        check.same("the day itself is not done", before, 89 - 7);
        hall.camp(0, 1);
        check.same("a camp gives on that day", hall.taper(0, 1, 1), before - 1);
        hall.camp(0, 2);
        check.same("and nothing ahead of it", hall.taper(0, 1, 1), before);
        hall.pass(1);
        check.same("as it was thought", hall.body(0, 'r'), before);
    }

    private static void likeTapers() {
        check.sameText("all alike", choices(tapering(20, 3, 1, 1, 0, 0, 0), 3, 3), "fff");
        Taperhall second = tapering(30, 10, 2, 2, 5, 5, 5);
        check.same("ffh and fhf", second.taper(0, 3, 3), 4);
        check.sameText("f ahead of h on the second day", choices(second, 3, 3), "ffh");
        Taperhall first = tapering(31, 12, 2, 2, 4, 4, 9);
        check.same("fhf and hff", first.taper(0, 3, 3), 3);
        check.sameText("f ahead of h on the first day", choices(first, 3, 3), "fhf");
        Taperhall half = tapering(42, 14, 8, 9, 6, 5, 9);
        check.same("hhn and nfn", half.taper(0, 3, 3), 1);
        check.sameText("h ahead of n on the first day", choices(half, 3, 3), "hhn");
        Taperhall most = tapering(48, 14, 8, 9, 2, 8, 5);
        check.same("fnn and hhn", most.taper(0, 3, 3), 1);
        check.sameText("f ahead of h, though n follows", choices(most, 3, 3), "fnn");
    }
}
