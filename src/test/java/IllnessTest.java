/** Promises 20 and 22: illness, and how it passes through a squad. */
public final class IllnessTest {
    private static final Check check = new Check("IllnessTest");

    private IllnessTest() {
    }

    public static void main(String[] args) {
        ill();
        illRanges();
        notDone();
        caught();
        notCaught();
        drawsInOrder();
        notOnTheSameDay();
        otherSquads();
        injuredCatchToo();
        check.end();
    }

    private static void ill() {
        Taperhall hall = new Taperhall();
        Halls.athlete(hall, 0, 0);
        check.same("22: five days", hall.ill(0, 5), 5);
        check.same("22: the longer one stays", hall.ill(0, 2), 5);
        hall.pass(3);
        check.same("22: still the longer one", hall.ill(0, 1), 2);
        check.same("22: a longer one", hall.ill(0, 14), 14);
        hall.pass(14);
        check.same("22: it is over", hall.body(0, 'k'), 0);
        check.same("22: again", hall.ill(0, 1), 1);
        check.same("22: it is no change", hall.changes(0), 0);
    }

    private static void illRanges() {
        Taperhall hall = new Taperhall();
        Halls.athlete(hall, 0, 0);
        check.failsArgument("22: 0", hall, () -> hall.ill(0, 0));
        check.failsArgument("22: 15", hall, () -> hall.ill(0, 15));
        check.failsArgument("22: -1", hall, () -> hall.ill(0, -1));
        check.failsIndex("22: athlete 1", hall, () -> hall.ill(1, 1));
        check.failsIndex("22: athlete -1, out of range", hall, () -> hall.ill(-1, 15));
        Halls.passTo(hall, 239);
        check.same("22: beyond the last day", hall.ill(0, 14), 14);
    }

    private static void notDone() {
        Taperhall hall = new Taperhall();
        Halls.session(hall, 3, 60);
        Halls.athlete(hall, 0, 0);
        Halls.plan(hall, 0, 0, "a.aa");
        hall.ill(0, 3);
        hall.pass(4);
        check.same("20: the first day", hall.felt(0, 0), 0);
        check.same("20: the last day of three", hall.felt(0, 2), 0);
        check.same("20: the day behind", hall.felt(0, 3), 60);
        check.sameText("20: rests are no change", Halls.changes(hall, 0), "a0 i0 i2");
    }

    private static void caught() {
        Taperhall hall = new Taperhall();
        Halls.session(hall, 3, 60);
        Halls.athlete(hall, 2, 0);
        Halls.athlete(hall, 2, 0);
        Halls.plan(hall, 1, 0, "9(a)");
        hall.ill(0, 1);
        int z = Halls.seedThatCatches(true);
        hall.seed(z);
        hall.pass(1);
        check.same("20: z is drawn once", hall.seed(1), Halls.after(z));
        check.same("20: ill on three days", hall.body(1, 'k'), 3);
        check.same("20: the day itself is done", hall.felt(1, 0), 60);
        check.sameText("20: the change", Halls.changes(hall, 1), "a0 k0");
        check.same("20: the other one is well", hall.body(0, 'k'), 0);
        hall.seed(Halls.seedThatCatches(false));
        hall.pass(4);
        check.sameText("20: not done", Halls.changes(hall, 1), "a0 k0 i1 i2 i3");
        check.same("20: done again", hall.felt(1, 4), 60);
    }

    private static void notCaught() {
        Taperhall hall = new Taperhall();
        Halls.athlete(hall, 2, 0);
        Halls.athlete(hall, 2, 0);
        hall.ill(0, 1);
        int z = Halls.seedThatCatches(false);
        hall.seed(z);
        hall.pass(1);
        check.same("20: z is drawn all the same", hall.seed(1), Halls.after(z));
        check.same("20: not ill", hall.body(1, 'k'), 0);
        check.same("20: no change", hall.changes(1), 0);
    }

    private static void drawsInOrder() {
        Taperhall hall = new Taperhall();
        for (int number = 0; number < 8; number++) {
            Halls.athlete(hall, number % 2, 0);
        }
        hall.ill(4, 3);
        hall.ill(5, 3);
        hall.ill(7, 3);
        long z = 12345;
        hall.seed((int) z);
        int[] ill = new int[8];
        ill[4] = 3;
        ill[5] = 3;
        ill[7] = 3;
        for (int day = 0; day < 40; day++) {
            int[] next = ill.clone();
            for (int number = 0; number < 8; number++) {
                boolean near = false;
                for (int other = number % 2; other < 8; other += 2) {
                    near = near || ill[other] > 0;
                }
                if (ill[number] == 0 && near) {
                    z = Halls.after(z);
                    next[number] = z % 8 == 0 ? 4 : 0;
                }
            }
            hall.pass(1);
            for (int number = 0; number < 8; number++) {
                ill[number] = Math.max(0, next[number] - 1);
                check.same("20: day " + day + " athlete " + number, hall.body(number, 'k'), ill[number]);
            }
            if (day % 9 == 8) {
                hall.ill(0, 2);
                ill[0] = Math.max(2, ill[0]);
                hall.ill(3, 3);
                ill[3] = Math.max(3, ill[3]);
            }
        }
        check.same("20: z behind it", hall.seed(1), z);
    }

    private static void notOnTheSameDay() {
        // Who catches it does not pass it on before the next day: the third one of another squad's number draws nothing.
        Taperhall hall = new Taperhall();
        Halls.athlete(hall, 0, 0);
        Halls.athlete(hall, 0, 0);
        hall.ill(0, 1);
        hall.seed(Halls.seedThatCatches(true));
        hall.pass(1);
        check.same("20: it is caught", hall.body(1, 'k'), 3);
        int z = Halls.seedThatCatches(true);
        hall.seed(z);
        hall.pass(1);
        check.same("20: and passed back from the next day on", hall.body(0, 'k'), 3);
        check.same("20: by one draw", hall.seed(1), Halls.after(z));
    }

    private static void otherSquads() {
        Taperhall hall = new Taperhall();
        Halls.athlete(hall, 0, 0);
        Halls.athlete(hall, 1, 0);
        hall.ill(0, 9);
        hall.seed(Halls.seedThatCatches(true));
        hall.pass(9);
        check.same("20: no draw for another squad", hall.seed(1), Halls.seedThatCatches(true));
        check.same("20: not ill", hall.body(1, 'k'), 0);
    }

    private static void injuredCatchToo() {
        Taperhall hall = InjuryTest.injured(2);
        Halls.athlete(hall, 0, 0);
        hall.ill(1, 1);
        int z = Halls.seedThatCatches(true);
        hall.seed(z);
        hall.pass(1);
        check.same("20: who is injured catches it", hall.body(0, 'k'), 3);
        check.same("20: still injured", hall.body(0, 's'), 1);
    }
}
