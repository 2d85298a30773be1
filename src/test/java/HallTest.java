/** Promises 40 to 45: z, the day, the checksum, shares and means, and soundness. */
public final class HallTest {
    private static final Check check = new Check("HallTest");

    private HallTest() {
    }

    public static void main(String[] args) {
        seed();
        today();
        checksum();
        fitShare();
        meanFelt();
        isSound();
        check.end();
    }

    private static void seed() {
        Taperhall hall = new Taperhall();
        check.same("40: at first", hall.seed(2147483646), 1);
        check.same("40: most", hall.seed(1), 2147483646);
        check.failsArgument("40: 0", hall, () -> hall.seed(0));
        check.failsArgument("40: -1", hall, () -> hall.seed(-1));
        check.failsArgument("40: the last int", hall, () -> hall.seed(2147483647));
        check.same("40: as before", hall.seed(2147483646), 1);
        Halls.athlete(hall, 0, 0);
        hall.race(0);
        check.same("40: the next of most", hall.seed(1), Halls.after(2147483646));
    }

    private static void today() {
        Taperhall hall = new Taperhall();
        check.same("41: at first", hall.today(), 0);
        hall.pass(7);
        check.same("41: later", hall.today(), 7);
        Halls.passTo(hall, 239);
        check.same("41: the last", hall.today(), 239);
    }

    private static void checksum() {
        Taperhall hall = InjuryTest.injured(2);
        Halls.athlete(hall, 1, 0);
        hall.test(0);
        hall.test(1);
        hall.test(0);
        hall.shift(1, 3, 1);
        hall.comeBack(0, 20);
        long sum = 7;
        for (int number = 0; number < 2; number++) {
            for (char what : "fgds".toCharArray()) {
                sum = 31 * sum + hall.body(number, what);
            }
            sum = 31 * sum + hall.changes(number);
            sum = 31 * sum + (number == 0 ? 2 : 1);
        }
        sum = 31 * sum + 1;
        sum = 31 * sum + Halls.after(Halls.after(Halls.after(1)));
        check.same("42: of two athletes", hall.checksum(), sum);
        check.holds("42: their parts are there", hall.body(0, 'd') > 0 && hall.body(0, 's') == 2);
        check.same("42: it changes nothing", hall.checksum(), sum);
    }

    private static void fitShare() {
        Taperhall hall = new Taperhall();
        check.failsArithmetic("43: none", hall, () -> hall.fitShare());
        Halls.athlete(hall, 0, 0);
        check.sameDouble("43: all", hall.fitShare(), 1.0f);
        hall.ill(0, 1);
        check.sameDouble("43: nobody", hall.fitShare(), 0.0f);
        Halls.athlete(hall, 1, 0);
        Halls.athlete(hall, 1, 0);
        check.sameDouble("43: two of three", hall.fitShare(), 2.0f / 3.0f);
        hall.pass(1);
        check.sameDouble("43: all again", hall.fitShare(), 1.0f);
        Taperhall other = InjuryTest.injured(20);
        Halls.athlete(other, 1, 0);
        check.sameDouble("43: one is injured", other.fitShare(), 0.5f);
    }

    private static void meanFelt() {
        Taperhall hall = new Taperhall();
        Halls.session(hall, 3, 60);
        check.failsArithmetic("44: no athletes", hall, () -> hall.meanFelt());
        Halls.athlete(hall, 0, 0);
        check.failsArithmetic("44: no day went by", hall, () -> hall.meanFelt());
        Halls.plan(hall, 0, 0, "aa");
        hall.pass(1);
        check.sameDouble("44: one day", hall.meanFelt(), 60.0);
        hall.pass(2);
        check.sameDouble("44: three days", hall.meanFelt(), 40.0);
        Halls.athlete(hall, 0, 0);
        check.sameDouble("44: 0 ahead of being added", hall.meanFelt(), 20.0);
        hall.pass(4);
        check.sameDouble("44: seven days of two", hall.meanFelt(), 120.0 / 14.0);
        Taperhall other = new Taperhall();
        other.pass(1);
        check.failsArithmetic("44: days, but no athletes", other, () -> other.meanFelt());
        Taperhall third = InjuryTest.injured(20);
        third.comeBack(0, 77);
        third.pass(1);
        check.sameDouble("44: comings back are felt", third.meanFelt(), (990.0 + 77.0) / 2.0);
    }

    private static void isSound() {
        Taperhall hall = new Taperhall();
        check.holds("45: at first", hall.isSound());
        Halls.session(hall, 5, 60);
        Halls.athlete(hall, 0, 0);
        hall.setCeiling(0, 165);
        Halls.plan(hall, 0, 0, "a");
        check.holds("45: just the ceiling", hall.isSound());
        hall.race(0);
        hall.pass(1);
        check.holds("45: a race and a day later", hall.isSound());
        for (int step = 1; step <= 4; step++) {
            Taperhall injured = InjuryTest.injured(20);
            for (int passed = 1; passed < step; passed++) {
                injured.comeBack(0, 20 * passed);
                injured.pass(1);
            }
            check.same("45: the step", injured.body(0, 's'), step);
            check.holds("45: injured on the step " + step, injured.isSound());
        }
    }
}
