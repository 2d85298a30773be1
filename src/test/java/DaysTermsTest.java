import java.io.IOException;

/** The sentences of the terms on days that go by, injuries, changes and camps: a test for each, at its bounds. */
public final class DaysTermsTest {
    private static final Check check = new Check("DaysTermsTest");

    private final Document document;

    private DaysTermsTest() throws IOException {
        document = new Document(check);
    }

    public static void main(String[] args) throws IOException {
        DaysTermsTest test = new DaysTermsTest();
        test.days();
        test.injuries();
        test.changes();
        test.camps();
        check.end();
    }

    // A day goes by so.

    private void days() {
        String section = "Terms, A day";
        document.quote(section, "of those with a hard one, as many as there are lanes, 8 at first");
        neitherIllNorInjured();
        eightLanesAtFirst();
        asManyAsLanes();
        lanesOfThoseWhoMay();
        halfIsCut();
        document.quote(section, "Who came back on that day feels the load of that.");
        feelsTheComingBack();
        document.quote(section, "Then bodies become as told, by their numbers.");
        bodiesAsTold();
        document.quote(section, "draws z, which is 1 at first and becomes z times 48271 modulo 2147483647");
        drawsAtFirst();
        drawsAroundTheModulus();
        illOnTheNextThreeDays();
        drawsByNumbers();
        noDrawWithoutTheIll();
        document.quote(section, "Then the next day comes.");
        nextDay();
        document.allQuoted(section, "A day goes by so\\.");
    }

    /** Sessions a of 165, which is hard, and b of 60. */
    private static Taperhall hall() {
        Taperhall hall = new Taperhall();
        Halls.session(hall, 5, 60);
        Halls.session(hall, 3, 60);
        return hall;
    }

    private static void neitherIllNorInjured() {
        Taperhall hall = hall();
        Halls.athlete(hall, 0, 0);
        Halls.plan(hall, 0, 0, "bbbb");
        hall.ill(0, 2);
        hall.pass(4);
        check.same("ill on the first day", hall.felt(0, 0), 0);
        check.same("ill on the last day", hall.felt(0, 1), 0);
        check.same("well on the day behind it", hall.felt(0, 2), 60);
        Taperhall other = InjuryTest.injured(20);
        check.same("injured behind the day, which is done", other.felt(0, 0), 990);
        Halls.plan(other, 0, 1, "aa");
        other.pass(2);
        check.same("injured", other.felt(0, 1) + other.felt(0, 2), 0);
        other.comeBack(0, 20);
        other.pass(1);
        Halls.plan(other, 0, 4, "a");
        other.pass(1);
        check.same("injured on the step 2", other.felt(0, 4), 0);
    }

    private static void eightLanesAtFirst() {
        Taperhall hall = hall();
        for (int number = 0; number < 8; number++) {
            Halls.plan(hall, Halls.athlete(hall, 0, 3), 0, "aa");
        }
        hall.pass(1);
        check.same("eight have lanes", hall.felt(7, 0), 165);
        check.same("as there are eight", hall.setLanes(7), 8);
        hall.pass(1);
        check.same("the seventh has one of seven", hall.felt(6, 1), 165);
        check.same("the eighth has not", hall.felt(7, 1), 82);
    }

    private static void asManyAsLanes() {
        int[] priorities = {0, 9, 4, 4, 9, 0, 4, 8};
        int[] ranks = {6, 0, 3, 4, 1, 7, 5, 2};
        for (int lanes = 0; lanes <= 8; lanes++) {
            Taperhall hall = hall();
            hall.setLanes(lanes);
            for (int priority : priorities) {
                Halls.plan(hall, Halls.athlete(hall, 0, priority), 0, "a");
            }
            hall.pass(1);
            for (int number = 0; number < 8; number++) {
                boolean lane = ranks[number] < lanes;
                check.same("athlete " + number + " by lanes " + lanes, hall.felt(number, 0), lane ? 165 : 82);
                check.same("changes by lanes " + lanes, hall.changes(number), lane ? 1 : 2);
            }
        }
    }

    private static void lanesOfThoseWhoMay() {
        Taperhall hall = hall();
        hall.session();
        for (int set = 0; set < 6; set++) {
            hall.set('c', 5, 60, 0);
        }
        for (int priority = 9; priority > 3; priority--) {
            Halls.athlete(hall, 0, priority);
        }
        hall.answers(0, 1, 1, 20);
        Halls.plan(hall, 0, 0, "caa");
        hall.pass(1);
        check.same("the first is injured", hall.body(0, 's'), 1);
        Halls.plan(hall, 1, 1, "a");
        hall.ill(1, 1);
        hall.seed(Halls.seedThatCatches(false));
        Halls.plan(hall, 2, 1, "b");
        Halls.plan(hall, 4, 1, "a");
        Halls.plan(hall, 5, 1, "a");
        hall.setLanes(1);
        hall.pass(1);
        check.sameText("the injured, the ill, the easy, the resting, and two for one lane",
            feltOf(hall, 1), "0 0 60 0 165 82");
        hall.comeBack(0, 20);
        Halls.plan(hall, 5, 2, "a");
        hall.pass(1);
        check.same("who came back takes no lane", hall.felt(5, 2), 165);
    }

    private static String feltOf(Taperhall hall, int day) {
        StringBuilder text = new StringBuilder();
        for (int number = 0; number < 6; number++) {
            text.append(number == 0 ? "" : " ").append(hall.felt(number, day));
        }
        return text.toString();
    }

    private static void halfIsCut() {
        // 11 times the minutes, a quarter, cut, and then half of that, cut: 2, 5, 8, 11.
        int[] halves = {1, 2, 4, 5};
        for (int minutes = 1; minutes <= 4; minutes++) {
            Taperhall hall = new Taperhall();
            Halls.session(hall, 5, minutes);
            Halls.athlete(hall, 0, 0);
            Halls.plan(hall, 0, 0, "a");
            hall.setLanes(0);
            hall.pass(1);
            check.same("half of " + minutes + " minutes", hall.felt(0, 0), halves[minutes - 1]);
            check.same("the form by it", hall.body(0, 'f'), halves[minutes - 1]);
        }
    }

    private static void feelsTheComingBack() {
        for (int load : new int[] {1, 10, 20, 21, 200}) {
            Taperhall hall = InjuryTest.injured(20);
            Halls.plan(hall, 0, 1, "aa");
            hall.comeBack(0, load);
            hall.pass(2);
            check.same("a coming back with " + load, hall.felt(0, 1), load);
            check.same("on that day alone", hall.felt(0, 2), 0);
        }
        Taperhall hall = InjuryTest.injured(20);
        hall.comeBack(0, 20);
        hall.ill(0, 3);
        hall.pass(1);
        check.same("ill behind it on that day", hall.felt(0, 1), 20);
    }

    private static void bodiesAsTold() {
        Taperhall hall = InjuryTest.injured(2);
        long form = hall.body(0, 'f');
        long fatigue = hall.body(0, 'g');
        long damage = hall.body(0, 'd');
        hall.comeBack(0, 21);
        hall.pass(1);
        check.same("form by the coming back", hall.body(0, 'f'), form + 21 - (form + 21) / 20);
        check.same("fatigue by it", hall.body(0, 'g'), fatigue + 21 - (fatigue + 21) / 5);
        check.same("damage by it", hall.body(0, 'd'), damage + 1 - (damage + 1) / 8);
        form = hall.body(0, 'f');
        hall.ill(0, 1);
        hall.pass(1);
        check.same("form fades when ill too", hall.body(0, 'f'), form - form / 20);
    }

    private static void drawsAtFirst() {
        Taperhall hall = new Taperhall();
        Halls.athlete(hall, 0, 0);
        Halls.athlete(hall, 0, 0);
        hall.ill(0, 3);
        hall.pass(1);
        check.same("z was 1", hall.seed(1), 48271);
        hall.pass(2);
        check.same("z is drawn on each day", hall.seed(1), 182605794);
    }

    private static void drawsAroundTheModulus() {
        long[][] rows = {{1, 48271}, {2, 96542}, {44488, 2147480248L}, {44489, 44872}, {2147483646, 2147435376},
            {2147483645, 2147387105}, {1073741824, 1073765959}};
        for (long[] row : rows) {
            check.same("the mirror of " + row[0], Halls.after(row[0]), row[1]);
            Taperhall hall = new Taperhall();
            Halls.athlete(hall, 3, 0);
            hall.seed((int) row[0]);
            hall.race(0);
            check.same("z behind " + row[0], hall.seed(1), row[1]);
        }
    }

    private static void illOnTheNextThreeDays() {
        for (int rest = 0; rest < 8; rest++) {
            int z = 1;
            while (Halls.after(z) % 8 != rest) {
                z++;
            }
            Taperhall hall = hall();
            Halls.athlete(hall, 0, 0);
            Halls.plan(hall, Halls.athlete(hall, 0, 0), 0, "bbbbb");
            hall.ill(0, 1);
            hall.seed(z);
            hall.pass(1);
            check.same("ill by the rest " + rest, hall.body(1, 'k'), rest == 0 ? 3 : 0);
            check.same("the day of the draw is done", hall.felt(1, 0), 60);
            hall.seed(Halls.seedThatCatches(false));
            hall.pass(3);
            String ill = Halls.changes(hall, 1);
            check.sameText("the days by the rest " + rest, ill, rest == 0 ? "a0 k0 i1 i2 i3" : "a0");
            hall.pass(1);
            check.same("well on the fourth", hall.felt(1, 4), 60);
        }
    }

    private static void drawsByNumbers() {
        // The first draw is that of the athlete 0, though the ill one has the number 1; the second that of 2.
        int z = 1;
        while (Halls.after(z) % 8 == 0 || Halls.after(Halls.after(z)) % 8 != 0) {
            z++;
        }
        Taperhall hall = new Taperhall();
        for (int number = 0; number < 3; number++) {
            Halls.athlete(hall, 2, 0);
        }
        hall.ill(1, 1);
        hall.seed(z);
        hall.pass(1);
        check.same("the first draw", hall.body(0, 'k'), 0);
        check.same("the second draw", hall.body(2, 'k'), 3);
        check.same("two draws", hall.seed(1), Halls.after(Halls.after(z)));
    }

    private static void noDrawWithoutTheIll() {
        Taperhall hall = new Taperhall();
        for (int squad = 0; squad < 4; squad++) {
            Halls.athlete(hall, squad, 0);
        }
        hall.ill(0, 1);
        hall.ill(3, 14);
        hall.pass(1);
        check.same("no draw in squads of one", hall.seed(7), 1);
        Halls.athlete(hall, 0, 0);
        hall.pass(1);
        check.same("no draw behind the last ill day", hall.seed(7), 7);
        hall.ill(0, 1);
        hall.ill(4, 1);
        hall.pass(1);
        check.same("no draw by the ill themselves", hall.seed(7), 7);
    }

    private static void nextDay() {
        Taperhall hall = new Taperhall();
        for (int due = 1; due <= 239; due++) {
            check.same("the day", hall.pass(1), due);
        }
        Taperhall one = InjuryTest.injured(3);
        Taperhall other = InjuryTest.injured(3);
        one.pass(30);
        for (int day = 0; day < 30; day++) {
            other.pass(1);
        }
        check.sameText("thirty days at once, and one by one", Readout.of(one), Readout.of(other));
    }

    // Injuries.

    private void injuries() {
        String section = "Terms, Injuries";
        document.quote(section, "Who is injured has steps 1 to 4.");
        stepsFrom1To4();
        document.quote(section, "passes a step if it is from 20 times the step less 10 to 20 times the step");
        passesWithin();
        onceADay();
        notWhenIll();
        noDamageBehindTheFourth();
        document.quote(section, "Another load fails: the step is 1 less, 1 at least.");
        failsByOne();
        document.quote(section, "What is planned on that day is not done.");
        planOfThatDay();
        document.allQuoted(section, "Injuries\\.");
    }

    /** An injured athlete on the given step, on a day without a coming back. */
    private static Taperhall onStep(int step) {
        Taperhall hall = InjuryTest.injured(20);
        for (int passed = 1; passed < step; passed++) {
            hall.comeBack(0, 20 * passed);
            hall.pass(1);
        }
        return hall;
    }

    private static void stepsFrom1To4() {
        Taperhall well = hall();
        Halls.athlete(well, 0, 0);
        check.same("not injured", well.body(0, 's'), 0);
        for (int step = 1; step <= 4; step++) {
            check.same("the step", onStep(step).body(0, 's'), step);
        }
        check.same("behind the fourth", onStep(5).body(0, 's'), 0);
    }

    private static void passesWithin() {
        for (int step = 1; step <= 4; step++) {
            for (int load = Math.max(1, 20 * step - 13); load <= 20 * step + 3; load++) {
                boolean within = load >= 20 * step - 10 && load <= 20 * step;
                Taperhall hall = onStep(step);
                int due = !within ? Math.max(1, step - 1) : step == 4 ? 0 : step + 1;
                check.same("the step " + step + " with " + load, hall.comeBack(0, load), due);
                check.same("the body tells it", hall.body(0, 's'), due);
            }
        }
    }

    private static void onceADay() {
        for (int load : new int[] {20, 200}) {
            Taperhall hall = onStep(1);
            hall.comeBack(0, load);
            check.failsUnsupported("twice a day, behind " + load, hall, () -> hall.comeBack(0, 20));
            check.failsUnsupported("and again", hall, () -> hall.comeBack(0, 40));
            hall.pass(1);
            check.same("on the next day", hall.comeBack(0, load == 20 ? 40 : 20), load == 20 ? 3 : 2);
        }
        Taperhall hall = onStep(4);
        hall.comeBack(0, 80);
        check.failsUnsupported("behind the fourth step, that day", hall, () -> hall.comeBack(0, 20));
        hall.pass(1);
        check.failsUnsupported("nor later: injured no more", hall, () -> hall.comeBack(0, 20));
    }

    private static void notWhenIll() {
        Taperhall hall = onStep(2);
        hall.ill(0, 1);
        check.failsUnsupported("ill on this day", hall, () -> hall.comeBack(0, 40));
        hall.pass(1);
        check.same("the step stays by it", hall.body(0, 's'), 2);
        check.same("well on the next one", hall.comeBack(0, 40), 3);
    }

    private static void noDamageBehindTheFourth() {
        Taperhall hall = InjuryTest.injured(2);
        for (int step = 1; step <= 3; step++) {
            hall.comeBack(0, 20 * step);
            check.holds("damage stays by the step " + step, hall.body(0, 'd') > 300);
            hall.pass(1);
        }
        hall.comeBack(0, 70);
        check.same("no damage", hall.body(0, 'd'), 0);
        check.same("no injury", hall.body(0, 's'), 0);
        hall.pass(1);
        check.same("but by the load of that day", hall.body(0, 'd'), 50 - 6);
        check.same("and still no injury", hall.body(0, 's'), 0);
        check.sameText("nor a change", Halls.changes(hall, 0), "a0 x0");
    }

    private static void failsByOne() {
        int[] due = {1, 1, 2, 3};
        for (int step = 1; step <= 4; step++) {
            for (int load : new int[] {1, 20 * step - 11, 20 * step + 1, 200}) {
                if (load > 0) {
                    Taperhall hall = onStep(step);
                    check.same("step " + step + " fails with " + load, hall.comeBack(0, load), due[step - 1]);
                }
            }
        }
        Taperhall hall = onStep(1);
        for (int count = 0; count < 3; count++) {
            check.same("1 at least", hall.comeBack(0, 9), 1);
            hall.pass(1);
        }
    }

    private static void planOfThatDay() {
        Taperhall hall = onStep(4);
        Halls.plan(hall, 0, hall.today(), "aa");
        int day = hall.today();
        hall.comeBack(0, 80);
        hall.pass(2);
        check.same("injured no more, but not done", hall.felt(0, day), 80);
        check.same("done on the next day", hall.felt(0, day + 1), 60);
        check.sameText("the change", Halls.changes(hall, 0), "a0 x0 a" + day + " i" + day);
        Taperhall rest = onStep(1);
        rest.comeBack(0, 20);
        rest.pass(1);
        check.sameText("nothing planned, no change", Halls.changes(rest, 0), "a0 x0");
    }

    // Changes.

    private void changes() {
        document.quote("Terms, Changes", "Each has a cause and a day, the first 40 of an athlete are kept");
        forty();
        byCalls();
        byDays();
        inTheOrderOfTheDay();
        document.allQuoted("Terms, Changes", "Changes\\.");
    }

    private static void forty() {
        Taperhall hall = hall();
        Halls.athlete(hall, 0, 0);
        Halls.athlete(hall, 0, 0);
        hall.setLanes(0);
        Halls.plan(hall, 0, 0, "5(9(a))");
        hall.pass(30);
        hall.pass(8);
        check.same("39", hall.changes(0), 39);
        hall.pass(1);
        check.same("the fortieth", hall.changes(0), 40);
        hall.pass(1);
        check.same("no more", hall.changes(0), 40);
        check.sameChar("the first is kept", hall.cause(0, 0), 'a');
        check.same("the last is the fortieth", hall.changeDay(0, 39), 38);
        check.failsElement("the next is not", hall, () -> hall.cause(0, 40));
        check.sameChar("a call works all the same", hall.drop(0, 41), 'a');
        check.same("and is not kept", hall.changes(0), 40);
        check.same("of the other one", hall.changes(1), 0);
    }

    private static void byCalls() {
        Taperhall hall = hall();
        Halls.athlete(hall, 0, 0);
        hall.pass(5);
        Halls.plan(hall, 0, 9, ".b");
        hall.shift(0, 8, 9);
        hall.drop(0, 19);
        hall.camp(0, 3);
        hall.test(0);
        hall.race(0);
        hall.ill(0, 1);
        hall.answers(0, 2, 2, 20);
        hall.setCeiling(0, 100);
        check.sameText("of the days that they name", Halls.changes(hall, 0), "a9 s8 d19");
    }

    private static void byDays() {
        Taperhall hall = hall();
        Halls.athlete(hall, 1, 0);
        Halls.athlete(hall, 1, 0);
        Halls.plan(hall, 0, 0, "aba.b");
        hall.setLanes(0);
        hall.pass(1);
        hall.ill(1, 1);
        hall.seed(Halls.seedThatCatches(true));
        hall.pass(1);
        hall.seed(Halls.seedThatCatches(false));
        hall.pass(3);
        check.sameText("a lane, an illness, what is not done", Halls.changes(hall, 0), "a0 h0 k1 i2 i4");
        check.same("ill, but nothing planned", hall.changes(1), 0);
    }

    private static void inTheOrderOfTheDay() {
        // Half of 990 is felt, which injures, and an illness is caught: all on the same day.
        Taperhall hall = new Taperhall();
        hall.session();
        for (int set = 0; set < 6; set++) {
            hall.set('a', 5, 60, 0);
        }
        Halls.athlete(hall, 0, 0);
        Halls.athlete(hall, 0, 0);
        hall.answers(1, 1, 1, 20);
        Halls.plan(hall, 1, 0, "aa");
        hall.ill(0, 1);
        hall.setLanes(0);
        hall.seed(Halls.seedThatCatches(true));
        hall.pass(1);
        check.sameText("as the day goes by", Halls.changes(hall, 1), "a0 h0 x0 k0");
        hall.pass(1);
        check.sameText("ill and injured is one change", Halls.changes(hall, 1), "a0 h0 x0 k0 i1");
    }

    // Camps.

    private void camps() {
        document.quote("Terms, Camps", "The last one alone counts.");
        lastCampCounts();
        document.quote("Terms, Camps", "From the first to the third day behind its last one it gives its days");
        givesByTheDay();
        document.allQuoted("Terms, Camps", "Camps\\.");
    }

    private static void lastCampCounts() {
        Taperhall hall = new Taperhall();
        Halls.athlete(hall, 0, 0);
        hall.camp(0, 1);
        hall.pass(2);
        check.same("its loss", hall.body(0, 'c'), -1);
        hall.camp(0, 4);
        check.same("no loss by the first one", hall.body(0, 'c'), 0);
        hall.pass(4);
        check.same("the loss of the second one", hall.body(0, 'c'), -4);
        hall.pass(4);
        check.same("no gain by the first one", hall.body(0, 'c'), 0);
        hall.pass(5);
        check.same("the gain of the second one", hall.body(0, 'c'), 8);
        check.same("a shorter one", hall.camp(0, 2), hall.today() + 1);
        check.same("in place of it", hall.body(0, 'c'), 0);
    }

    private static void givesByTheDay() {
        for (int days : new int[] {1, 2, 21}) {
            Taperhall hall = new Taperhall();
            hall.athlete(0, 0, 100, 20, 3);
            check.same("no camp", hall.body(0, 'c'), 0);
            hall.pass(3);
            check.same("its last day", hall.camp(0, days), 2 + days);
            int[] bounds = {0, 1, 3, 4, 9, 10, 24, 25};
            int[] gives = {0, -days, -days, 0, 0, 2 * days, 2 * days, 0};
            for (int index = 0; index < bounds.length; index++) {
                Halls.passTo(hall, 2 + days + bounds[index]);
                check.same("the day " + bounds[index] + " behind it", hall.body(0, 'c'), gives[index]);
                check.same("ready on it", hall.body(0, 'r'), 100 + gives[index]);
            }
            Halls.passTo(hall, 239);
            check.same("at last", hall.body(0, 'c'), 0);
        }
        Taperhall hall = new Taperhall();
        Halls.athlete(hall, 0, 0);
        hall.camp(0, 21);
        for (int day = 0; day <= 20; day++) {
            check.same("nothing in the camp", hall.body(0, 'c'), 0);
            hall.pass(1);
        }
        check.same("but behind it", hall.body(0, 'c'), -21);
    }
}
