/** Promises 20 and 23: injuries, and the steps back that are passed in order. */
public final class InjuryTest {
    private static final Check check = new Check("InjuryTest");

    private InjuryTest() {
    }

    public static void main(String[] args) {
        stepsInOrder();
        stepsBack();
        bounds();
        refused();
        ranges();
        load();
        planOfTheDay();
        illBehindIt();
        notInjuredTwice();
        injuredAgain();
        ceilingAside();
        check.end();
    }

    /** A hall on the day 1 with one athlete who is injured, of the given tolerance by 10, and a session a of 60. */
    static Taperhall injured(int tolerance) {
        Taperhall hall = new Taperhall();
        Halls.session(hall, 3, 60);
        hall.session();
        for (int set = 0; set < 6; set++) {
            hall.set('b', 5, 60, 0);
        }
        Halls.athlete(hall, 0, 5);
        hall.answers(0, 1, 1, tolerance * 10);
        Halls.plan(hall, 0, 0, "b");
        hall.pass(1);
        return hall;
    }

    private static void stepsInOrder() {
        Taperhall hall = injured(2);
        check.same("20: injured", hall.body(0, 's'), 1);
        check.same("20: by the damage", hall.body(0, 'd'), 970 - 121);
        check.same("23: step 1", hall.comeBack(0, 20), 2);
        hall.pass(1);
        check.same("23: step 2", hall.comeBack(0, 40), 3);
        hall.pass(1);
        check.same("23: step 3", hall.comeBack(0, 60), 4);
        hall.pass(1);
        check.holds("23: the damage remembers", hall.body(0, 'd') > 300);
        check.same("23: step 4", hall.comeBack(0, 80), 0);
        check.same("23: no damage", hall.body(0, 'd'), 0);
        check.same("23: injured no more", hall.body(0, 's'), 0);
        hall.pass(1);
        check.same("23: the load of the day does damage", hall.body(0, 'd'), 60 - 7);
        check.sameText("23: no change by it", Halls.changes(hall, 0), "a0 x0");
    }

    private static void stepsBack() {
        Taperhall hall = injured(20);
        check.same("23: step 1 fails", hall.comeBack(0, 21), 1);
        int[][] rows = {{20, 2}, {41, 1}, {10, 2}, {30, 3}, {49, 2}, {40, 3}, {50, 4}, {81, 3}, {60, 4}, {69, 3}, {1, 2},
            {200, 1}, {200, 1}, {9, 1}, {15, 2}, {35, 3}, {55, 4}, {75, 0}};
        for (int[] row : rows) {
            hall.pass(1);
            check.same("23: with " + row[0], hall.comeBack(0, row[0]), row[1]);
            check.same("21: the step", hall.body(0, 's'), row[1]);
        }
    }

    private static void bounds() {
        for (int step = 1; step <= 4; step++) {
            for (int load : new int[] {20 * step - 11, 20 * step - 10, 20 * step, 20 * step + 1}) {
                Taperhall hall = injured(20);
                for (int passed = 1; passed < step; passed++) {
                    hall.comeBack(0, 20 * passed);
                    hall.pass(1);
                }
                boolean passes = load >= 20 * step - 10 && load <= 20 * step;
                int due = passes ? (step + 1) % 5 : Math.max(1, step - 1);
                check.same("23: step " + step + " with " + load, hall.comeBack(0, load), due);
                check.same("23: damage stays by a failure", Math.min(1, hall.body(0, 'd')), due == 0 ? 0 : 1);
            }
        }
    }

    private static void refused() {
        Taperhall hall = new Taperhall();
        Halls.athlete(hall, 0, 0);
        check.failsUnsupported("23: not injured", hall, () -> hall.comeBack(0, 10));
        Taperhall other = injured(20);
        other.ill(0, 2);
        check.failsUnsupported("23: ill", other, () -> other.comeBack(0, 10));
        other.pass(1);
        check.failsUnsupported("23: ill still", other, () -> other.comeBack(0, 10));
        other.pass(1);
        check.same("23: ill no more", other.comeBack(0, 10), 2);
        check.failsUnsupported("23: twice a day", other, () -> other.comeBack(0, 30));
        check.failsArgument("23: twice a day, out of range", other, () -> other.comeBack(0, 0));
        other.pass(1);
        check.same("23: the next day", other.comeBack(0, 31), 3);
    }

    private static void ranges() {
        Taperhall hall = injured(20);
        check.failsArgument("23: 0", hall, () -> hall.comeBack(0, 0));
        check.failsArgument("23: 201", hall, () -> hall.comeBack(0, 201));
        check.failsArgument("23: -1", hall, () -> hall.comeBack(0, -1));
        check.failsIndex("23: athlete 1", hall, () -> hall.comeBack(1, 10));
        check.failsIndex("23: athlete -1, out of range", hall, () -> hall.comeBack(-1, 0));
        check.same("23: most", hall.comeBack(0, 200), 1);
        hall.pass(1);
        check.same("23: least", hall.comeBack(0, 1), 1);
    }

    private static void load() {
        Taperhall hall = injured(2);
        long form = hall.body(0, 'f');
        long fatigue = hall.body(0, 'g');
        long damage = hall.body(0, 'd');
        hall.comeBack(0, 150);
        check.same("23: nothing before the day goes by", hall.body(0, 'f'), form);
        hall.pass(1);
        check.same("23: felt", hall.felt(0, 1), 150);
        check.same("23: form", hall.body(0, 'f'), form + 150 - (form + 150) / 20);
        check.same("23: fatigue", hall.body(0, 'g'), fatigue + 150 - (fatigue + 150) / 5);
        check.same("23: damage", hall.body(0, 'd'), damage + 130 - (damage + 130) / 8);
        hall.pass(1);
        check.same("23: of that day alone", hall.felt(0, 2), 0);
    }

    private static void planOfTheDay() {
        Taperhall hall = injured(20);
        Halls.plan(hall, 0, 1, "9(a)");
        hall.pass(1);
        check.same("20: injured, not done", hall.felt(0, 1), 0);
        for (int step = 1; step <= 4; step++) {
            hall.comeBack(0, 20 * step);
            hall.pass(1);
            check.same("23: the coming back is felt", hall.felt(0, 1 + step), 20 * step);
        }
        hall.pass(1);
        check.same("23: done again", hall.felt(0, 6), 60);
        check.sameText("23: not done, healed that day or not", Halls.changes(hall, 0), "a0 x0 a1 i1 i2 i3 i4 i5");
    }

    private static void illBehindIt() {
        Taperhall hall = injured(20);
        hall.comeBack(0, 20);
        hall.ill(0, 1);
        hall.pass(1);
        check.same("23: who came back and fell ill feels it", hall.felt(0, 1), 20);
    }

    private static void notInjuredTwice() {
        Taperhall hall = injured(2);
        hall.comeBack(0, 20);
        for (int day = 0; day < 3; day++) {
            hall.pass(1);
            hall.comeBack(0, 200);
        }
        hall.pass(1);
        check.holds("20: much damage", hall.body(0, 'd') > 300);
        check.sameText("20: one injury", Halls.changes(hall, 0), "a0 x0");
        check.same("20: the step stays", hall.body(0, 's'), 1);
    }

    private static void injuredAgain() {
        Taperhall hall = injured(20);
        for (int step = 1; step <= 4; step++) {
            hall.comeBack(0, 20 * step);
            hall.pass(1);
        }
        Halls.plan(hall, 0, hall.today(), "b");
        hall.pass(1);
        check.same("20: injured again", hall.body(0, 's'), 1);
        check.sameText("20: both", Halls.changes(hall, 0), "a0 x0 a5 x5");
    }

    private static void ceilingAside() {
        Taperhall hall = injured(20);
        Halls.passTo(hall, 10);
        hall.comeBack(0, 200);
        hall.pass(1);
        hall.comeBack(0, 200);
        hall.pass(1);
        check.same("18: a coming back aside", hall.peak(0), 990);
        Halls.passTo(hall, 20);
        check.same("12: of 990 at most", hall.setCeiling(0, 990), 9999);
        Halls.plan(hall, 0, 20, "b");
        hall.comeBack(0, 200);
        hall.pass(1);
        check.holds("45: sound", hall.isSound());
        check.same("18: what was not done aside too", hall.peak(0), 990);
        check.same("12: still", hall.setCeiling(0, 9999), 990);
    }
}
