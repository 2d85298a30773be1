import java.io.IOException;
import java.util.NoSuchElementException;

/**
 * The lines of the promises, one by one: what each call tells, the bounds of each argument, and each condition of each
 * exception. That every line has its test is looked at too.
 */
public final class PromisesTest {
    private static final int LEAST = Integer.MIN_VALUE;
    private static final int MOST = Integer.MAX_VALUE;

    /** A call with one argument that is left open. */
    interface Of {
        Object run(Taperhall hall, int argument);
    }

    private final Check check = new Check("PromisesTest");
    private final Document document = new Document(check);
    private String section = "";

    private PromisesTest() throws IOException {
    }

    public static void main(String[] args) throws IOException {
        PromisesTest test = new PromisesTest();
        test.sessions();
        test.scripts();
        test.athletes();
        test.plans();
        test.days();
        test.bodies();
        test.changes();
        test.tests();
        test.races();
        test.tapers();
        test.hall();
        test.severalConditions();
        test.end();
    }

    private void end() {
        check.same("promises", document.count("Promise"), 45);
        document.allQuoted("Promise");
        document.allQuoted("Terms, Exceptions", "Exceptions\\.");
        check.end();
    }

    // What the tests are told in.

    /**
     * On the day 10: sessions a of 60 felt, b of 990, which is hard, and c without sets; an athlete 0 who is well, 1
     * who is injured, and 2 who is ill; three tests of each, a race of the first, and a plan that is typed.
     */
    private static Taperhall busy() {
        Taperhall hall = new Taperhall();
        Halls.session(hall, 3, 60);
        hall.session();
        for (int set = 0; set < 6; set++) {
            hall.set('b', 5, 60, 0);
        }
        hall.session();
        for (int number = 0; number < 3; number++) {
            hall.athlete(number, number, 1000, 20, 5);
            hall.answers(number, 2, 3, 20);
            hall.test(number);
        }
        hall.race(0);
        Halls.plan(hall, 1, 3, "b");
        hall.pass(10);
        hall.ill(2, 14);
        for (int number = 0; number < 3; number++) {
            hall.test(number);
            hall.test(number);
        }
        Halls.plan(hall, 0, 20, ".a.a");
        hall.plan(1, 20);
        return hall;
    }

    /** The promise's first line has these words, and what it says is what the next tests are for. */
    private void promise(int number, String words) {
        section = "Promise " + number;
        document.quote(section, words);
    }

    private void returns(String words, Object got, Object due) {
        document.quote(section, words);
        check.sameText(section + ": " + words, got + "", due + "");
    }

    private void tells(String what, Object got, Object due) {
        check.sameText(section + ": " + what, got + "", due + "");
    }

    /** The line of an argument that goes from the least to the most, and the numbers at and beyond both. */
    private void argument(String line, int least, int most, Of call) {
        document.quote(section, line);
        within(line, least, most, call);
        for (int number : new int[] {least - 1, most + 1, LEAST, MOST}) {
            if (number < least || number > most) {
                refused(IllegalArgumentException.class, line + " at " + number, busy(), number, call);
            }
        }
    }

    private void within(String line, int least, int most, Of call) {
        for (int number : new int[] {least, most}) {
            Taperhall hall = busy();
            String got = Readout.answer(() -> call.run(hall, number));
            check.holds(section + ": " + line + " at " + number + " gave " + got, !got.endsWith("Exception"));
        }
    }

    /** The line of an argument that is one of some characters, and all others up to 300, and the last one. */
    private void letters(String line, String letters, Of call) {
        document.quote(section, line);
        for (int sign = 0; sign <= 300; sign++) {
            lettersAt(line, letters, sign, call);
        }
        lettersAt(line, letters, 65535, call);
        lettersAt(line, letters, 'a' + 256, call);
    }

    private void lettersAt(String line, String letters, int sign, Of call) {
        Taperhall hall = busy();
        String got = Readout.answer(() -> call.run(hall, sign));
        boolean refused = got.equals("IllegalArgumentException");
        check.holds(section + ": " + line + " at " + sign + " gave " + got, refused == (letters.indexOf(sign) < 0));
    }

    /** The line of an athlete, and that of the exception if there is none: nothing is said of the other arguments. */
    private void athleteIsThere(Of call) {
        document.quote(section, "- `athlete`: the athlete");
        for (int number : new int[] {-1, 3, 7, 8, LEAST, MOST}) {
            refused(IndexOutOfBoundsException.class, "athlete " + number, busy(), number, call);
        }
        refused(IndexOutOfBoundsException.class, "a hall without athletes", new Taperhall(), 0, call);
    }

    private void refused(Class<? extends RuntimeException> due, String what, Taperhall hall, int number, Of call) {
        document.quote(section, "Throws `" + due.getSimpleName() + "`");
        check.fails(section + ": " + what, hall, due, () -> call.run(hall, number));
    }

    private void refused(Class<? extends RuntimeException> due, String what, Taperhall hall, Of call) {
        refused(due, what, hall, 0, call);
    }

    // Promises 1 to 5.

    private void sessions() {
        promise(1, "Creates a hall without athletes, on the day 0.");
        Taperhall fresh = new Taperhall();
        tells("the day", fresh.today(), 0);
        check.failsIndex("1: no athlete", fresh, () -> fresh.peak(0));
        promise(2, "Adds a session without sets.");
        tells("the load of one", busy().load('c', 't'), 0);
        returns("Returns its letter.", busy().session(), 'd');
        Taperhall ten = new Taperhall();
        for (int count = 0; count < 9; count++) {
            ten.session();
        }
        tells("the tenth", ten.session(), 'j');
        refused(IllegalStateException.class, "an eleventh", ten, (hall, none) -> hall.session());
        set();
        load();
        turn();
    }

    private void set() {
        promise(3, "Adds a set to a session.");
        letters("- `session`: its letter", "abc", (hall, letter) -> hall.set((char) letter, 1, 1, 0));
        argument("- `zone`: 1 to 5", 1, 5, (hall, zone) -> hall.set('c', zone, 1, 0));
        argument("- `minutes`: 1 to 60", 1, 60, (hall, minutes) -> hall.set('c', 1, minutes, 0));
        argument("- `rest`: 0 to 30", 0, 30, (hall, rest) -> hall.set('c', 1, 1, rest));
        Taperhall hall = busy();
        returns("Returns how many sets it has.", hall.set('c', 1, 1, 0), 1);
        tells("the second", hall.set('c', 5, 60, 30), 2);
        refused(IllegalArgumentException.class, "no such session", hall, (one, none) -> one.set('d', 1, 1, 0));
        refused(UnsupportedOperationException.class, "planned", hall, (one, none) -> one.set('a', 1, 1, 0));
        tells("one that went by", Readout.answer(() -> hall.set('b', 1, 1, 0)), "IllegalStateException");
        refused(IllegalStateException.class, "six sets", hall, (one, none) -> one.set('b', 1, 1, 0));
        for (int count = 3; count <= 6; count++) {
            tells("up to six", hall.set('c', 1, 1, 0), count);
        }
        refused(IllegalStateException.class, "a seventh", hall, (one, none) -> one.set('c', 1, 1, 0));
        Taperhall now = busy();
        Halls.plan(now, 2, 10, "c");
        refused(UnsupportedOperationException.class, "planned for now", now, (one, none) -> one.set('c', 1, 1, 0));
        now.pass(1);
        tells("it went by", now.set('c', 1, 1, 0), 1);
        Halls.plan(now, 0, 239, "c");
        refused(UnsupportedOperationException.class, "on the last day", now, (one, none) -> one.set('c', 1, 1, 0));
    }

    private void load() {
        promise(4, "Returns a load.");
        letters("- `session`: its letter", "abc", (hall, letter) -> hall.load((char) letter, 'm'));
        letters("- `unit`: 'm', 'r' or 't'", "mrt", (hall, unit) -> hall.load('a', (char) unit));
        returns("Returns the load.", busy().load('b', 't'), 3960);
        tells("in m", busy().load('b', 'm'), 1800);
        refused(IllegalArgumentException.class, "no such session", busy(), (hall, none) -> hall.load('d', 'm'));
        refused(IllegalArgumentException.class, "no such unit", busy(), (hall, none) -> hall.load('a', 's'));
        refused(IllegalArgumentException.class, "no session", new Taperhall(), (hall, none) -> hall.load('a', 'm'));
    }

    private void turn() {
        promise(5, "Turns a load into another unit.");
        argument("- `value`: 0 to 99999", 0, 99999, (hall, value) -> hall.turn(value, 'm', 't'));
        letters("- `from`: 'm', 'r' or 't'", "mrt", (hall, unit) -> hall.turn(1, (char) unit, 't'));
        letters("- `to`: 'm', 'r' or 't'", "mrt", (hall, unit) -> hall.turn(1, 'm', (char) unit));
        // The sums: 180 + 1800 in m, 240 + 3960 in t.
        returns("Returns the load.", busy().turn(1000, 'm', 't'), 1000 * 4200 / 1980);
        tells("of most", busy().turn(99999, 'm', 't'), 99999L * 4200 / 1980);
        refused(IllegalArgumentException.class, "no such unit", busy(), (hall, none) -> hall.turn(1, 'm', 'x'));
        refused(ArithmeticException.class, "no session", new Taperhall(), (hall, none) -> hall.turn(0, 'm', 't'));
        Taperhall rests = new Taperhall();
        rests.session();
        refused(ArithmeticException.class, "no set", rests, (hall, none) -> hall.turn(1, 't', 't'));
        rests.set('a', 1, 30, 30);
        refused(ArithmeticException.class, "rests alone", rests, (hall, none) -> hall.turn(1, 'r', 't'));
        tells("to a sum of 0", rests.turn(99999, 't', 'r'), 0);
    }

    // Promises 6 to 9.

    private void scripts() {
        promise(6, "Types a character of a plan.");
        String signs = "abcdefghijklmnopqrstuvwxyz23456789.()";
        letters("- `character`: the character", signs, (hall, sign) -> hall.type((char) sign));
        Taperhall hall = new Taperhall();
        returns("Returns how many are typed.", hall.type('z'), 1);
        refused(IllegalArgumentException.class, "a digit of 1", hall, (one, none) -> one.type('1'));
        for (int count = 2; count <= 24; count++) {
            tells("up to 24", hall.type(')'), count);
        }
        refused(IllegalStateException.class, "a 25th", hall, (one, none) -> one.type('.'));
        promise(7, "Takes the typed plan away.");
        returns("Returns how many characters it had.", hall.wipe(), 24);
        tells("nothing is left", hall.wipe(), 0);
        promise(8, "Returns the fault of the typed plan.");
        tells("of nothing", hall.fault(), 0);
        hall.type('.');
        returns("Returns the place, -1 without a fault.", hall.fault(), -1);
        hall.type('a');
        tells("a session that is not there", hall.fault(), 1);
        promise(9, "Returns to how many days the typed plan unfolds.");
        refused(IllegalStateException.class, "a fault", hall, (one, none) -> one.unfolds());
        Halls.type(hall, "");
        refused(IllegalStateException.class, "nothing typed", hall, (one, none) -> one.unfolds());
        Halls.type(hall, "6(9(.)).......");
        refused(IllegalStateException.class, "61 days", hall, (one, none) -> one.unfolds());
        Halls.type(hall, "6(9(.))......");
        returns("Returns how many.", hall.unfolds(), 60);
        tells("it stays typed", hall.unfolds(), 60);
    }

    // Promises 10 to 12.

    private void athletes() {
        promise(10, "Adds an athlete.");
        argument("- `squad`: 0 to 3", 0, 3, (hall, squad) -> hall.athlete(squad, 0, 0, 20, 3));
        argument("- `priority`: 0 to 9", 0, 9, (hall, priority) -> hall.athlete(0, priority, 0, 20, 3));
        argument("- `base`: 0 to 9999", 0, 9999, (hall, base) -> hall.athlete(0, 0, base, 20, 3));
        argument("- `formPace`: 20 to 60", 20, 60, (hall, pace) -> hall.athlete(0, 0, 0, pace, 3));
        argument("- `fatiguePace`: 3 to 15", 3, 15, (hall, pace) -> hall.athlete(0, 0, 0, 20, pace));
        Taperhall hall = busy();
        returns("Returns the number, with a gain and a cost of 1", hall.athlete(0, 0, 0, 20, 3), 3);
        Halls.plan(hall, 3, 10, "b");
        hall.pass(1);
        tells("a gain of 1", hall.body(3, 'f'), 990 - 49);
        tells("a cost of 1", hall.body(3, 'g'), 990 - 330);
        tells("a tolerance of 200", hall.answers(3, 1, 1, 20), 200);
        tells("a ceiling of 9999", hall.setCeiling(3, 9999), 9999);
        for (int number = 4; number < 8; number++) {
            tells("up to eight", hall.athlete(0, 0, 0, 20, 3), number);
        }
        refused(IllegalStateException.class, "a ninth", hall, (one, none) -> one.athlete(0, 0, 0, 20, 3));
        answers();
        setCeiling();
    }

    private void answers() {
        promise(11, "Tells how an athlete answers to load.");
        athleteIsThere((hall, athlete) -> hall.answers(athlete, 1, 1, 20));
        argument("- `gain`: 1 to 9", 1, 9, (hall, gain) -> hall.answers(0, gain, 1, 20));
        argument("- `cost`: 1 to 9", 1, 9, (hall, cost) -> hall.answers(0, 1, cost, 20));
        argument("- `tolerance`: 20 to 200", 20, 200, (hall, tolerance) -> hall.answers(0, 1, 1, tolerance));
        Taperhall hall = busy();
        hall.answers(0, 1, 1, 77);
        returns("Returns the tolerance before.", hall.answers(0, 1, 1, 20), 77);
        tells("of one athlete alone", hall.answers(1, 1, 1, 20), 20);
    }

    private void setCeiling() {
        promise(12, "Sets a ceiling.");
        athleteIsThere((hall, athlete) -> hall.setCeiling(athlete, 9999));
        argument("- `ceiling`: 100 to 9999", 100, 9999, (hall, ceiling) -> hall.setCeiling(2, ceiling));
        Taperhall hall = busy();
        returns("Returns the one before.", hall.setCeiling(0, 120), 9999);
        tells("and then", hall.setCeiling(0, 121), 120);
        refused(UnsupportedOperationException.class, "planned exceeds", hall, (one, none) -> one.setCeiling(0, 119));
        refused(UnsupportedOperationException.class, "done exceeds", hall, (one, none) -> one.setCeiling(1, 989));
        tells("just what was done", hall.setCeiling(1, 990), 9999);
    }

    // Promises 13 to 18.

    private void plans() {
        promise(13, "Plans for an athlete what is typed, in place of what was planned on those days; it stays typed.");
        athleteIsThere((hall, athlete) -> hall.plan(athlete, 30));
        fromNowOn((hall, day) -> hall.plan(0, day));
        within("from the day of now on", 10, 236, (hall, day) -> hall.plan(0, day));
        Taperhall hall = busy();
        returns("Returns how many days are planned.", hall.plan(0, 23), 4);
        tells("in place", Halls.days(hall, 0, 20, 28), ".a..a.a.");
        tells("it stays typed", hall.wipe(), 4);
        refused(UnsupportedOperationException.class, "nothing typed", hall, (one, none) -> one.plan(0, 30));
        Halls.type(hall, "a(");
        refused(UnsupportedOperationException.class, "a fault", hall, (one, none) -> one.plan(0, 30));
        Halls.type(hall, "..");
        refused(UnsupportedOperationException.class, "beyond 239", hall, (one, none) -> one.plan(0, 239));
        tells("up to 239", hall.plan(0, 238), 2);
        Taperhall tight = busy();
        tight.setCeiling(0, 179);
        Halls.type(tight, "aaa");
        refused(UnsupportedOperationException.class, "the ceiling", tight, (one, none) -> one.plan(0, 50));
        tight.setCeiling(0, 180);
        tells("just the ceiling", tight.plan(0, 50), 3);
        shift();
        drop();
        planned();
        felt();
        peak();
    }

    private void fromNowOn(Of call) {
        document.quote(section, "- `day`: from the day of now on");
        for (int day : new int[] {9, 0, -1, 240, LEAST, MOST}) {
            refused(IllegalArgumentException.class, "day " + day, busy(), day, call);
        }
    }

    private void shift() {
        promise(14, "Shifts all that is planned from a day on to later days; the days between have none.");
        athleteIsThere((hall, athlete) -> hall.shift(athlete, 10, 1));
        fromNowOn((hall, day) -> hall.shift(0, day, 1));
        within("from the day of now on", 10, 239, (hall, day) -> hall.shift(0, day, 1));
        argument("- `by`: 1 to 9 days", 1, 9, (hall, by) -> hall.shift(0, 10, by));
        Taperhall hall = busy();
        returns("Returns how many sessions are shifted.", hall.shift(0, 23, 2), 1);
        tells("the days between", Halls.days(hall, 0, 20, 27), ".a...a.");
        tells("from a session on", hall.shift(0, 21, 9), 2);
        tells("both of them", Halls.days(hall, 0, 20, 36), "..........a...a.");
        tells("none behind them", hall.shift(0, 35, 1), 0);
        Halls.plan(hall, 0, 236, "a");
        refused(UnsupportedOperationException.class, "beyond 239", hall, (one, none) -> one.shift(0, 100, 4));
        tells("up to 239", hall.shift(0, 100, 3), 1);
        refused(UnsupportedOperationException.class, "from 239", hall, (one, none) -> one.shift(0, 239, 1));
        tightShift();
    }

    /** What stays and what is shifted only come apart, so that no shift exceeds a ceiling that held ahead of it. */
    private void tightShift() {
        for (int by = 1; by <= 9; by++) {
            for (int day = 10; day <= 17; day++) {
                Taperhall hall = busy();
                Halls.plan(hall, 0, 10, "aa.aaa.aa");
                long peak = hall.peak(0);
                hall.setCeiling(0, (int) peak);
                hall.shift(0, day, by);
                check.holds("14: by " + by + " from " + day, hall.peak(0) <= peak && hall.isSound());
            }
        }
    }

    private void drop() {
        promise(15, "Drops what is planned for a day.");
        athleteIsThere((hall, athlete) -> hall.drop(athlete, 21));
        fromNowOn((hall, day) -> hall.drop(0, day));
        within("from the day of now on", 10, 239, (hall, day) -> {
            Halls.plan(hall, 0, day, "a");
            return hall.drop(0, day);
        });
        Taperhall hall = busy();
        returns("Returns its letter.", hall.drop(0, 21), 'a');
        tells("nothing is left of it", hall.planned(0, 21), '.');
        refused(NoSuchElementException.class, "dropped", hall, (one, none) -> one.drop(0, 21));
        refused(NoSuchElementException.class, "a rest", hall, (one, none) -> one.drop(0, 20));
        refused(NoSuchElementException.class, "the last day", hall, (one, none) -> one.drop(0, 239));
        refused(IllegalArgumentException.class, "a day that went by", hall, (one, none) -> one.drop(1, 3));
    }

    private void planned() {
        promise(16, "Returns what is planned for a day, or was as it went by.");
        athleteIsThere((hall, athlete) -> hall.planned(athlete, 0));
        argument("- `day`: 0 to 239", 0, 239, (hall, day) -> hall.planned(0, day));
        Taperhall hall = busy();
        returns("Returns the letter, '.' for none.", hall.planned(0, 20), '.');
        tells("planned", hall.planned(0, 21), 'a');
        tells("as it went by", hall.planned(1, 3), 'b');
    }

    private void felt() {
        promise(17, "Returns what was felt on a day that went by.");
        athleteIsThere((hall, athlete) -> hall.felt(athlete, 0));
        document.quote(section, "- `day`: 0 to 239");
        within("- `day`: 0 to 9", 0, 9, (hall, day) -> hall.felt(0, day));
        for (int day : new int[] {-1, 240, LEAST, MOST}) {
            refused(IllegalArgumentException.class, "day " + day, busy(), day, (hall, one) -> hall.felt(0, one));
        }
        returns("Returns the load.", busy().felt(1, 3), 990);
        for (int day : new int[] {10, 11, 239}) {
            refused(NoSuchElementException.class, "day " + day, busy(), day, (hall, one) -> hall.felt(0, one));
        }
    }

    private void peak() {
        promise(18, "Returns the greatest sum of what is felt of sessions on 7 days one behind the other");
        athleteIsThere((hall, athlete) -> hall.peak(athlete));
        returns("Returns the sum.", busy().peak(0), 120);
        tells("done", busy().peak(1), 990);
        Taperhall hall = busy();
        Halls.plan(hall, 0, 24, "...a");
        tells("the first and the seventh day", hall.peak(0), 180);
        Halls.plan(hall, 0, 27, ".a");
        tells("but not the eighth", hall.peak(0), 120);
        tells("nothing", busy().peak(2), 0);
    }

    // Promises 19 to 21.

    private void days() {
        promise(19, "Tells how many lanes there are.");
        argument("- `lanes`: 0 to 8", 0, 8, (hall, lanes) -> hall.setLanes(lanes));
        Taperhall hall = busy();
        returns("Returns how many there were.", hall.setLanes(5), 8);
        tells("and then", hall.setLanes(0), 5);
        promise(20, "Lets days go by.");
        argument("- `days`: 1 to 30", 1, 30, (one, days) -> one.pass(days));
        returns("Returns the day then.", hall.pass(30), 40);
        Halls.passTo(hall, 229);
        refused(IllegalStateException.class, "to 240", hall, (one, none) -> one.pass(11));
        refused(IllegalStateException.class, "far above", hall, (one, none) -> one.pass(30));
        tells("to 239", hall.pass(10), 239);
        refused(IllegalStateException.class, "one more", hall, (one, none) -> one.pass(1));
        promise(21, "Returns something of a body, as the day of now begins.");
        athleteIsThere((one, athlete) -> one.body(athlete, 'f'));
        letters("- `what`: 'f' form", "fgdrskc", (one, what) -> one.body(0, (char) what));
        refused(IllegalArgumentException.class, "no such thing", busy(), (one, none) -> one.body(0, 'F'));
        returns("Returns the number.", busy().body(2, 'k'), 14);
        tells("a step", busy().body(1, 's'), 1);
        tells("0 for not injured", busy().body(0, 's'), 0);
        tells("a base alone", busy().body(0, 'r'), 1000);
    }

    // Promises 22 and 23.

    private void bodies() {
        promise(22, "Lets an athlete be ill.");
        athleteIsThere((hall, athlete) -> hall.ill(athlete, 1));
        argument("- `days`: 1 to 14, from the day of now on", 1, 14, (hall, days) -> hall.ill(0, days));
        returns("Returns how many days the athlete is ill from now on, longer ones staying.", busy().ill(2, 13), 14);
        Taperhall hall = busy();
        tells("one day", hall.ill(0, 1), 1);
        tells("longer ones", hall.ill(0, 2), 2);
        hall.pass(1);
        tells("of those one stays", hall.ill(0, 1), 1);
        hall.pass(1);
        tells("and none", hall.body(0, 'k'), 0);
        Halls.passTo(hall, 239);
        tells("on the last day", hall.ill(0, 14), 14);
        comeBack();
    }

    private void comeBack() {
        promise(23, "Lets an athlete come back.");
        athleteIsThere((hall, athlete) -> hall.comeBack(athlete, 10));
        argument("- `load`: 1 to 200", 1, 200, (hall, load) -> hall.comeBack(1, load));
        Taperhall hall = busy();
        for (int step = 1; step <= 3; step++) {
            tells("the step then", hall.comeBack(1, 20 * step), step + 1);
            refused(UnsupportedOperationException.class, "twice a day", hall, (one, none) -> one.comeBack(1, 10));
            hall.pass(1);
        }
        returns("Returns the step then, 0 if injured no more.", hall.comeBack(1, 70), 0);
        refused(UnsupportedOperationException.class, "no more", hall, (one, none) -> one.comeBack(1, 10));
        refused(UnsupportedOperationException.class, "not injured", busy(), (one, none) -> one.comeBack(0, 10));
        Taperhall ill = busy();
        ill.ill(1, 1);
        refused(UnsupportedOperationException.class, "ill now", ill, (one, none) -> one.comeBack(1, 10));
        ill.seed(Halls.seedThatCatches(false));
        ill.pass(1);
        tells("well again", ill.comeBack(1, 10), 2);
    }

    // Promises 24 to 27.

    private void changes() {
        promise(24, "Returns how many changes of an athlete are kept.");
        athleteIsThere((hall, athlete) -> hall.changes(athlete));
        returns("Returns how many.", busy().changes(1), 3);
        promise(25, "Returns the cause of a change.");
        athleteIsThere((hall, athlete) -> hall.cause(athlete, 0));
        returns("Returns the letter.", busy().cause(1, 1), 'x');
        changeIsThere((hall, index) -> hall.cause(1, index));
        promise(26, "Returns the day of a change.");
        athleteIsThere((hall, athlete) -> hall.changeDay(athlete, 0));
        returns("Returns the day.", busy().changeDay(1, 2), 20);
        changeIsThere((hall, index) -> hall.changeDay(1, index));
        promise(27, "Sends an athlete to a camp, in place of another one.");
        athleteIsThere((hall, athlete) -> hall.camp(athlete, 1));
        argument("- `days`: 1 to 21, from the day of now on", 1, 21, (hall, days) -> hall.camp(0, days));
        Taperhall hall = busy();
        tells("another one", hall.camp(0, 20), 29);
        returns("Returns the last day of it.", hall.camp(0, 1), 10);
        hall.pass(1);
        tells("in place of it", hall.body(0, 'c'), -1);
    }

    private void changeIsThere(Of call) {
        document.quote(section, "- `index`: from 0");
        within("- `index`: from 0", 0, 2, call);
        for (int index : new int[] {-1, 3, 39, 40, LEAST, MOST}) {
            refused(NoSuchElementException.class, "change " + index, busy(), index, call);
        }
    }

    // Promises 28 to 32.

    private void tests() {
        promise(28, "Sets the error of tests.");
        argument("- `error`: 0 to 99", 0, 99, (hall, error) -> hall.setError(error));
        Taperhall hall = busy();
        hall.setError(98);
        returns("Returns the one before.", hall.setError(0), 98);
        promise(29, "Tests an athlete, as the day of now begins.");
        athleteIsThere((one, athlete) -> one.test(athlete));
        returns("Returns what the test tells.", hall.test(0), 1000);
        for (int count = 4; count < 12; count++) {
            tells("up to twelve", hall.test(0), 1000);
        }
        refused(IllegalStateException.class, "a thirteenth", hall, (one, none) -> one.test(0));
        promise(30, "Returns how many rivals there are, the best fit counted.");
        athleteIsThere((one, athlete) -> one.rivals(athlete));
        returns("Returns how many.", hall.rivals(0), 143);
        tooFewTests((one, none) -> one.rivals(0));
        fit();
        forecast();
    }

    private void tooFewTests(Of call) {
        Taperhall hall = new Taperhall();
        hall.athlete(0, 0, 0, 20, 3);
        for (int count = 0; count < 3; count++) {
            refused(UnsupportedOperationException.class, count + " tests", hall, call);
            hall.test(0);
        }
        String got = Readout.answer(() -> call.run(hall, 0));
        check.holds(section + ": three tests gave " + got, !got.endsWith("Exception"));
    }

    private void fit() {
        promise(31, "Returns something of a fit.");
        athleteIsThere((hall, athlete) -> hall.fit(athlete, 0, 'f'));
        rivalIsThere((hall, rival) -> hall.fit(0, rival, 'f'));
        letters("- `what`: 'f' its pace of form", "fgbe", (hall, what) -> hall.fit(0, -1, (char) what));
        returns("Returns the number.", busy().fit(0, -1, 'b'), 1000);
        tells("the last pace of fatigue", busy().fit(0, 142, 'g'), 15);
        refused(IllegalArgumentException.class, "no such thing", busy(), (hall, none) -> hall.fit(0, -1, 'h'));
        tooFewTests((hall, none) -> hall.fit(0, -1, 'f'));
        tooFewTests((hall, none) -> hall.fit(0, 142, 'e'));
    }

    private void rivalIsThere(Of call) {
        document.quote(section, "- `rival`: from 0, -1 for the best one");
        within("- `rival`: from 0, -1 for the best one", -1, 142, call);
        within("- `rival`: from 0", 0, 1, call);
        for (int rival : new int[] {-2, 143, LEAST, MOST}) {
            refused(NoSuchElementException.class, "rival " + rival, busy(), rival, call);
        }
    }

    private void forecast() {
        promise(32, "camps aside, as a day begins, by what is planned up to it, done wholly.");
        athleteIsThere((hall, athlete) -> hall.forecast(athlete, 0, 10));
        rivalIsThere((hall, rival) -> hall.forecast(0, rival, 10));
        argument("- `day`: from the day of now on to 239", 10, 239, (hall, day) -> hall.forecast(0, -1, day));
        refused(IllegalArgumentException.class, "a day that went by", busy(), (hall, none) -> hall.forecast(0, -1, 9));
        // The best fit has paces of 20 and 3, by a gain of 2 and a cost of 3.
        returns("Returns the number.", busy().forecast(0, -1, 22), 1000 + (120 - 6) - (180 - 60));
        tells("as the day begins", busy().forecast(0, -1, 21), 1000);
        Taperhall hall = busy();
        hall.camp(0, 11);
        tells("camps aside", hall.forecast(0, -1, 22), 994);
        tells("though one is in the taper", hall.taper(0, 21, 1), 1000 - 11);
        tooFewTests((one, none) -> one.forecast(0, -1, 0));
    }

    // Promises 33 to 37.

    private void races() {
        promise(33, "Sets the standard, from the day of now on.");
        argument("- `standard`: -9999 to 99999", -9999, 99999, (hall, standard) -> hall.setStandard(standard));
        Taperhall hall = busy();
        hall.setStandard(-9999);
        returns("Returns the one before.", hall.setStandard(0), -9999);
        promise(34, "Lets an athlete race, as the day of now begins.");
        athleteIsThere((one, athlete) -> one.race(athlete));
        hall.seed(1);
        returns("Returns the result.", hall.race(0), 1000 - 48271 % 21);
        refused(UnsupportedOperationException.class, "ill now", hall, (one, none) -> one.race(2));
        refused(UnsupportedOperationException.class, "injured", hall, (one, none) -> one.race(1));
        promise(35, "Tells whether an athlete qualified.");
        athleteIsThere((one, athlete) -> one.isQualified(athlete));
        returns("Returns whether so.", hall.isQualified(0), true);
        tells("without a race", hall.isQualified(1), false);
        promise(36, "Returns the best result of an athlete.");
        athleteIsThere((one, athlete) -> one.best(athlete));
        Taperhall other = busy();
        other.athlete(0, 0, 0, 20, 3);
        other.seed(1);
        other.race(3);
        returns("Returns the result.", other.best(3), -(48271 % 21));
        refused(NoSuchElementException.class, "no race", other, (one, none) -> one.best(1));
        selected();
    }

    private void selected() {
        promise(37, "Returns who is chosen.");
        argument("- `places`: 1 to 8", 1, 8, (hall, places) -> hall.selected(places, 0));
        document.quote(section, "- `index`: from 0");
        Taperhall hall = busy();
        hall.athlete(0, 0, 2000, 20, 3);
        hall.athlete(0, 0, 0, 20, 3);
        hall.race(3);
        hall.setStandard(1);
        hall.race(4);
        returns("Returns the athlete.", hall.selected(1, 0), 3);
        tells("the second of two", hall.selected(2, 1), 0);
        tells("the second of eight", hall.selected(8, 1), 0);
        for (int index : new int[] {-1, 2, 7, 8, LEAST, MOST}) {
            refused(NoSuchElementException.class, "index " + index, hall, index, (one, at) -> one.selected(8, at));
        }
        refused(NoSuchElementException.class, "beyond one place", hall, (one, none) -> one.selected(1, 1));
        refused(NoSuchElementException.class, "nobody", new Taperhall(), (one, none) -> one.selected(8, 0));
        refused(IllegalArgumentException.class, "no place", hall, (one, none) -> one.selected(0, 0));
    }

    // Promises 38 and 39.

    private void tapers() {
        promise(38, "Returns what one would be ready by on a day by the best taper.");
        athleteIsThere((hall, athlete) -> hall.taper(athlete, 12, 2));
        argument("- `day`: the day", 11, 239, (hall, day) -> hall.taper(0, day, 1));
        argument("- `days`: 1 to 6 of them ahead of it, none ahead of the day of now", 1, 6,
            (hall, days) -> hall.taper(0, 16, days));
        daysAheadOfNow((hall, days) -> hall.taper(0, 10 + Math.abs(days % 10), days / 10));
        returns("Returns the number.", busy().taper(0, 22, 1), 1000);
        // The day 21 leaves 114 and 144, the day 22 109 and 116, and none on the day 23 is best.
        tells("two days ahead of it", busy().taper(0, 24, 2), 1000 + (109 - 5) - (116 - 23));
        promise(39, "Returns what the best taper does on a day.");
        athleteIsThere((hall, athlete) -> hall.taperAt(athlete, 12, 2, 0));
        argument("- `day`: the day", 11, 239, (hall, day) -> hall.taperAt(0, day, 1, 0));
        argument("- `days`: 1 to 6 of them ahead of it, none ahead of the day of now", 1, 6,
            (hall, days) -> hall.taperAt(0, 16, days, 0));
        daysAheadOfNow((hall, days) -> hall.taperAt(0, 10 + Math.abs(days % 10), days / 10, 0));
        document.quote(section, "- `index`: from 0, of these days");
        within("- `index`: from 0, of these days", 0, 5, (hall, index) -> hall.taperAt(0, 16, 6, index));
        returns("Returns 'f', 'h' or 'n'.", busy().taperAt(0, 22, 2, 0), 'f');
        tells("no load is best", busy().taperAt(0, 22, 2, 1), 'n');
        for (int index : new int[] {-1, 3, 6, LEAST, MOST}) {
            refused(NoSuchElementException.class, "day " + index + " of three", busy(), index,
                (hall, at) -> hall.taperAt(0, 22, 3, at));
        }
    }

    /** Tens tell the days of a taper, and ones its day behind that of now. */
    private void daysAheadOfNow(Of call) {
        for (int number : new int[] {10, 20, 21, 60, 65}) {
            refused(IllegalArgumentException.class, "ahead of now, " + number, busy(), number, call);
        }
        within("from now on", 11, 66, call);
    }

    // Promises 40 to 45.

    private void hall() {
        promise(40, "Sets z.");
        argument("- `z`: 1 to 2147483646", 1, 2147483646, (hall, z) -> hall.seed(z));
        Taperhall hall = busy();
        hall.seed(2147483646);
        returns("Returns the one before.", hall.seed(99), 2147483646);
        promise(41, "Returns the day of now.");
        returns("Returns the day.", hall.today(), 10);
        promise(42, "Returns a sum over the hall.");
        tells("of a new one", new Taperhall().checksum(), (7 * 31 + 0) * 31 + 1);
        returns("Returns 7 at first, then for each athlete 31 times itself plus the form", fullHall().checksum(),
            sumOf(fullHall()));
        promise(43, "Returns the share of athletes who are neither ill now nor injured.");
        returns("Returns their number divided by that of all, both converted to float.", hall.fitShare(), 1f / 3f);
        refused(ArithmeticException.class, "none", new Taperhall(), (one, none) -> one.fitShare());
        promise(44, "from the day 0 on for each athlete, 0 ahead of being added.");
        returns("Returns the sum divided by how many days there were, for each athlete", hall.meanFelt(), 990.0 / 30.0);
        hall.athlete(0, 0, 0, 20, 3);
        tells("0 ahead of being added", hall.meanFelt(), 990.0 / 40.0);
        Taperhall fresh = new Taperhall();
        refused(ArithmeticException.class, "nobody, no day", fresh, (one, none) -> one.meanFelt());
        fresh.pass(1);
        refused(ArithmeticException.class, "nobody", fresh, (one, none) -> one.meanFelt());
        Taperhall first = new Taperhall();
        first.athlete(0, 0, 0, 20, 3);
        refused(ArithmeticException.class, "no day", first, (one, none) -> one.meanFelt());
        first.pass(1);
        tells("nothing felt on a day", first.meanFelt(), 0.0);
        promise(45, "Checks the hall: no 7 days exceed a ceiling");
        returns("Returns whether all of this holds.", hall.isSound(), true);
        tells("of a new one", new Taperhall().isSound(), true);
        tells("of a full one", fullHall().isSound(), true);
    }

    /** Eight athletes who train every day: the sum over them goes around what a long holds. */
    private static Taperhall fullHall() {
        Taperhall hall = busy();
        for (int number = 3; number < 8; number++) {
            hall.athlete(3, 0, 0, 20, 3);
        }
        for (int number = 0; number < 8; number++) {
            Halls.plan(hall, number, 10, "9(a)b");
        }
        hall.pass(30);
        return hall;
    }

    private static long sumOf(Taperhall hall) {
        java.math.BigInteger sum = java.math.BigInteger.valueOf(7);
        java.math.BigInteger times = java.math.BigInteger.valueOf(31);
        for (int number = 0; number < 8; number++) {
            for (char what : "fgds".toCharArray()) {
                sum = sum.multiply(times).add(java.math.BigInteger.valueOf(hall.body(number, what)));
            }
            sum = sum.multiply(times).add(java.math.BigInteger.valueOf(hall.changes(number)));
            sum = sum.multiply(times).add(java.math.BigInteger.valueOf(number < 3 ? 3 : 0));
        }
        sum = sum.multiply(times).add(java.math.BigInteger.valueOf(hall.today()));
        return sum.multiply(times).add(java.math.BigInteger.valueOf(hall.seed(1))).longValue();
    }

    // Exceptions.

    private void severalConditions() {
        document.quote("Terms, Exceptions", "A method that throws an exception changes nothing.");
        document.quote("Terms, Exceptions", "the exception that is listed first is thrown.");
        section = "several conditions";
        ofSessions();
        ofAthletes();
        ofPlans();
        ofDays();
        ofTests();
        ofRaces();
    }

    private void first(Class<? extends RuntimeException> due, String what, Taperhall hall, Of call) {
        check.fails(section + ": " + what, hall, due, () -> call.run(hall, 0));
    }

    private void ofSessions() {
        Class<IllegalArgumentException> argument = IllegalArgumentException.class;
        Taperhall hall = busy();
        Halls.plan(hall, 2, 30, "b");
        first(argument, "set, out of range and planned", hall, (one, none) -> one.set('b', 6, 1, 0));
        first(UnsupportedOperationException.class, "set, planned and full", hall, (one, none) -> one.set('b', 1, 1, 0));
        hall.drop(2, 30);
        first(argument, "set, out of range and full", hall, (one, none) -> one.set('b', 1, 61, 0));
        first(argument, "set, no session and out of range", hall, (one, none) -> one.set('z', 1, 1, 31));
        Taperhall none = new Taperhall();
        first(argument, "turn, no unit and a sum of 0", none, (one, zero) -> one.turn(1, 'x', 't'));
        first(argument, "turn, to no unit and a sum of 0", none, (one, zero) -> one.turn(1, 't', 'x'));
        first(argument, "turn, out of range and a sum of 0", none, (one, zero) -> one.turn(100000, 'm', 't'));
        for (int count = 0; count < 24; count++) {
            none.type('.');
        }
        first(argument, "type, no character and 24", none, (one, zero) -> one.type('*'));
    }

    private void ofAthletes() {
        Class<IndexOutOfBoundsException> index = IndexOutOfBoundsException.class;
        Class<IllegalArgumentException> argument = IllegalArgumentException.class;
        first(index, "answers", busy(), (hall, none) -> hall.answers(3, 0, 0, 0));
        first(index, "setCeiling", busy(), (hall, none) -> hall.setCeiling(-1, 99));
        first(argument, "setCeiling, out of range and exceeded", busy(), (hall, none) -> hall.setCeiling(1, 99));
        Taperhall eight = busy();
        for (int number = 3; number < 8; number++) {
            eight.athlete(0, 0, 0, 20, 3);
        }
        first(argument, "athlete, out of range and eight", eight, (hall, none) -> hall.athlete(4, 0, 0, 20, 3));
        first(argument, "athlete, a pace and eight", eight, (hall, none) -> hall.athlete(0, 0, 0, 20, 16));
        first(index, "body", busy(), (hall, none) -> hall.body(3, 'z'));
        first(index, "ill", busy(), (hall, none) -> hall.ill(3, 0));
        first(index, "camp", busy(), (hall, none) -> hall.camp(3, 22));
        first(index, "comeBack", busy(), (hall, none) -> hall.comeBack(3, 201));
        first(argument, "comeBack, out of range and ill", busy(), (hall, none) -> hall.comeBack(2, 0));
        first(argument, "comeBack, out of range and well", busy(), (hall, none) -> hall.comeBack(0, 201));
        Taperhall twice = busy();
        twice.comeBack(1, 20);
        first(argument, "comeBack, out of range and twice", twice, (hall, none) -> hall.comeBack(1, 0));
        first(index, "cause", busy(), (hall, none) -> hall.cause(3, 99));
        first(index, "changeDay", busy(), (hall, none) -> hall.changeDay(-1, -1));
    }

    private void ofPlans() {
        Class<IndexOutOfBoundsException> index = IndexOutOfBoundsException.class;
        Class<IllegalArgumentException> argument = IllegalArgumentException.class;
        Taperhall fault = busy();
        Halls.type(fault, "a)");
        first(index, "plan, a day and a fault", fault, (hall, none) -> hall.plan(3, 240));
        first(index, "plan, a fault", fault, (hall, none) -> hall.plan(3, 10));
        first(argument, "plan, a day that went by and a fault", fault, (hall, none) -> hall.plan(0, 9));
        first(argument, "plan, 240 and beyond 239", busy(), (hall, none) -> hall.plan(0, 240));
        first(index, "shift", busy(), (hall, none) -> hall.shift(3, 9, 10));
        Taperhall last = busy();
        Halls.plan(last, 0, 239, "a");
        first(argument, "shift, by 10 and beyond 239", last, (hall, none) -> hall.shift(0, 10, 10));
        first(argument, "shift, a day and beyond 239", last, (hall, none) -> hall.shift(0, 9, 1));
        first(index, "drop, a day and nothing planned", busy(), (hall, none) -> hall.drop(3, 9));
        first(argument, "drop, a day and nothing planned", busy(), (hall, none) -> hall.drop(0, 9));
        first(argument, "drop, the day 240", busy(), (hall, none) -> hall.drop(0, 240));
        first(index, "planned", busy(), (hall, none) -> hall.planned(3, 240));
        first(index, "felt, a day", busy(), (hall, none) -> hall.felt(3, 240));
        first(index, "felt, a day that did not go by", busy(), (hall, none) -> hall.felt(3, 10));
        first(argument, "felt, the day 240, which did not go by", busy(), (hall, none) -> hall.felt(0, 240));
    }

    private void ofDays() {
        Taperhall last = busy();
        Halls.passTo(last, 239);
        for (int days : new int[] {31, 0, LEAST, MOST}) {
            first(IllegalArgumentException.class, "pass, " + days + " and above 239", last,
                (hall, none) -> hall.pass(days));
        }
    }

    private void ofTests() {
        Class<IndexOutOfBoundsException> index = IndexOutOfBoundsException.class;
        Class<IllegalArgumentException> argument = IllegalArgumentException.class;
        Class<UnsupportedOperationException> few = UnsupportedOperationException.class;
        Taperhall untested = new Taperhall();
        untested.athlete(0, 0, 0, 20, 3);
        first(index, "rivals", untested, (hall, none) -> hall.rivals(1));
        first(index, "fit, all of it", untested, (hall, none) -> hall.fit(1, -2, 'x'));
        first(index, "fit, few tests", untested, (hall, none) -> hall.fit(-1, 0, 'f'));
        first(argument, "fit, no thing, few tests and no rival", untested, (hall, none) -> hall.fit(0, 999, 'x'));
        first(few, "fit, few tests and no rival", untested, (hall, none) -> hall.fit(0, 143, 'f'));
        first(few, "fit, few tests and a rival below", untested, (hall, none) -> hall.fit(0, -2, 'e'));
        first(argument, "fit, no thing and no rival", busy(), (hall, none) -> hall.fit(0, 999, 'x'));
        first(index, "forecast, all of it", untested, (hall, none) -> hall.forecast(1, -2, 240));
        first(argument, "forecast, a day, few tests", untested, (hall, none) -> hall.forecast(0, 999, -1));
        first(few, "forecast, few tests and no rival", untested, (hall, none) -> hall.forecast(0, 143, 0));
        first(few, "forecast, few tests and a rival below", untested, (hall, none) -> hall.forecast(0, -2, 0));
        first(argument, "forecast, a day and no rival", busy(), (hall, none) -> hall.forecast(0, 999, 9));
    }

    private void ofRaces() {
        Class<IndexOutOfBoundsException> index = IndexOutOfBoundsException.class;
        Class<IllegalArgumentException> argument = IllegalArgumentException.class;
        first(index, "best, without a race", busy(), (hall, none) -> hall.best(3));
        first(index, "race", busy(), (hall, none) -> hall.race(3));
        first(argument, "selected, no places and no such one", busy(), (hall, none) -> hall.selected(0, 9));
        first(argument, "selected, nine places and below 0", busy(), (hall, none) -> hall.selected(9, -1));
        first(index, "taper", busy(), (hall, none) -> hall.taper(3, 240, 7));
        first(index, "taperAt, all of it", busy(), (hall, none) -> hall.taperAt(3, 240, 7, 7));
        first(index, "taperAt, no such day", busy(), (hall, none) -> hall.taperAt(-1, 20, 2, 2));
        first(argument, "taperAt, seven days and no such day", busy(), (hall, none) -> hall.taperAt(0, 20, 7, 7));
        first(argument, "taperAt, days ahead of now", busy(), (hall, none) -> hall.taperAt(0, 11, 2, 2));
        first(argument, "taperAt, no days and below 0", busy(), (hall, none) -> hall.taperAt(0, 20, 0, -1));
    }
}
