/** Promises 1 to 5: a new hall, sessions, sets, loads and their units. */
public final class SessionsTest {
    private static final Check check = new Check("SessionsTest");

    private SessionsTest() {
    }

    public static void main(String[] args) {
        newHall();
        session();
        setRanges();
        setOfPlanned();
        setOfFull();
        load();
        turn();
        turnOfNothing();
        check.end();
    }

    private static void newHall() {
        Taperhall hall = new Taperhall();
        check.same("1: the day", hall.today(), 0);
        check.same("1: the checksum", hall.checksum(), (7 * 31 + 0) * 31 + 1);
        check.failsIndex("1: an athlete", hall, () -> hall.changes(0));
        check.failsArgument("1: a session", hall, () -> hall.load('a', 'm'));
        check.same("1: a typed plan", hall.wipe(), 0);
        check.same("1: lanes", hall.setLanes(3), 8);
        check.same("1: error", hall.setError(3), 0);
        check.same("1: standard", hall.setStandard(3), 0);
        check.same("1: z", hall.seed(3), 1);
        Taperhall other = new Taperhall();
        check.same("1: halls share nothing", other.seed(5), 1);
    }

    private static void session() {
        Taperhall hall = new Taperhall();
        for (char due = 'a'; due <= 'j'; due++) {
            check.sameChar("2: letter", hall.session(), due);
        }
        check.same("2: a session without sets", hall.load('j', 't'), 0);
        check.failsState("2: the eleventh", hall, () -> hall.session());
        check.failsArgument("2: is not there", hall, () -> hall.load('k', 't'));
    }

    private static void setRanges() {
        Taperhall hall = new Taperhall();
        hall.session();
        check.same("3: first", hall.set('a', 1, 1, 0), 1);
        check.same("3: second", hall.set('a', 5, 60, 30), 2);
        check.failsArgument("3: zone 0", hall, () -> hall.set('a', 0, 1, 0));
        check.failsArgument("3: zone 6", hall, () -> hall.set('a', 6, 1, 0));
        check.failsArgument("3: minutes 0", hall, () -> hall.set('a', 1, 0, 0));
        check.failsArgument("3: minutes 61", hall, () -> hall.set('a', 1, 61, 0));
        check.failsArgument("3: rest -1", hall, () -> hall.set('a', 1, 1, -1));
        check.failsArgument("3: rest 31", hall, () -> hall.set('a', 1, 1, 31));
        check.failsArgument("3: a least number", hall, () -> hall.set('a', 1, Integer.MIN_VALUE, 0));
        check.failsArgument("3: session b", hall, () -> hall.set('b', 1, 1, 0));
        check.failsArgument("3: session .", hall, () -> hall.set('.', 1, 1, 0));
        check.failsArgument("3: session below a", hall, () -> hall.set((char) 96, 1, 1, 0));
        check.failsArgument("3: session A", hall, () -> hall.set('A', 1, 1, 0));
        check.failsArgument("3: session 0", hall, () -> hall.set((char) 0, 1, 1, 0));
        check.failsArgument("3: the last character", hall, () -> hall.set((char) 65535, 1, 1, 0));
        check.same("3: third", hall.set('a', 1, 60, 30), 3);
    }

    private static void setOfPlanned() {
        Taperhall hall = new Taperhall();
        Halls.session(hall, 1, 40);
        Halls.session(hall, 1, 40);
        Halls.athlete(hall, 0, 0);
        Halls.athlete(hall, 0, 0);
        Halls.plan(hall, 1, 1, "a");
        check.failsUnsupported("3: planned for tomorrow", hall, () -> hall.set('a', 1, 1, 0));
        check.same("3: another one is not", hall.set('b', 1, 1, 0), 2);
        check.failsArgument("3: planned, out of range", hall, () -> hall.set('a', 0, 1, 0));
        hall.pass(1);
        check.failsUnsupported("3: planned for the day of now", hall, () -> hall.set('a', 1, 1, 0));
        hall.pass(1);
        check.same("3: it went by", hall.set('a', 1, 1, 0), 2);
        Halls.plan(hall, 0, 239, "a");
        check.failsUnsupported("3: planned for the last day", hall, () -> hall.set('a', 1, 1, 0));
        hall.drop(0, 239);
        check.same("3: dropped", hall.set('a', 1, 1, 0), 3);
    }

    private static void setOfFull() {
        Taperhall hall = new Taperhall();
        hall.session();
        for (int due = 1; due <= 6; due++) {
            check.same("3: count", hall.set('a', 1, 10, 0), due);
        }
        check.failsState("3: the seventh", hall, () -> hall.set('a', 1, 1, 0));
        check.failsArgument("3: the seventh, out of range", hall, () -> hall.set('a', 1, 1, 31));
        Halls.athlete(hall, 0, 0);
        Halls.plan(hall, 0, 0, "a");
        check.failsUnsupported("3: the seventh, planned", hall, () -> hall.set('a', 1, 1, 0));
        check.same("3: as before", hall.load('a', 'm'), 60);
    }

    private static void load() {
        int[] weights = {1, 2, 4, 7, 11};
        Taperhall hall = new Taperhall();
        for (int zone = 1; zone <= 5; zone++) {
            char letter = hall.session();
            hall.set(letter, zone, 10, 7);
            check.same("4: m", hall.load(letter, 'm'), 10 * zone);
            check.same("4: r", hall.load(letter, 'r'), 10 * zone - 7);
            check.same("4: t", hall.load(letter, 't'), 10 * weights[zone - 1]);
        }
        hall.set('a', 1, 5, 30);
        check.same("4: m of two", hall.load('a', 'm'), 15);
        check.same("4: a rest takes nothing of another set", hall.load('a', 'r'), 3);
        check.same("4: t of two", hall.load('a', 't'), 15);
        check.failsArgument("4: unit q", hall, () -> hall.load('a', 'q'));
        check.failsArgument("4: unit M", hall, () -> hall.load('a', 'M'));
        check.failsArgument("4: session f", hall, () -> hall.load('f', 'm'));
        check.failsArgument("4: session below a", hall, () -> hall.load((char) 96, 'm'));
    }

    private static void turn() {
        Taperhall hall = new Taperhall();
        hall.session();
        hall.set('a', 3, 40, 10);
        hall.session();
        hall.set('b', 5, 20, 0);
        // Sums: m 220, r 210, t 380.
        check.same("5: m to t", hall.turn(100, 'm', 't'), 172);
        check.same("5: t to m", hall.turn(100, 't', 'm'), 57);
        check.same("5: m to r", hall.turn(99, 'm', 'r'), 94);
        check.same("5: r to t", hall.turn(1, 'r', 't'), 1);
        check.same("5: none", hall.turn(0, 'r', 't'), 0);
        check.same("5: the same unit", hall.turn(99999, 't', 't'), 99999);
        check.failsArgument("5: below", hall, () -> hall.turn(-1, 'm', 't'));
        check.failsArgument("5: above", hall, () -> hall.turn(100000, 'm', 't'));
        check.failsArgument("5: from q", hall, () -> hall.turn(1, 'q', 't'));
        check.failsArgument("5: to q", hall, () -> hall.turn(1, 't', 'q'));
        turnOfMost();
    }

    private static void turnOfMost() {
        Taperhall hall = new Taperhall();
        for (int count = 0; count < 10; count++) {
            char letter = hall.session();
            for (int set = 0; set < 6; set++) {
                hall.set(letter, 5, 60, 30);
            }
        }
        check.same("5: above an int on the way", hall.turn(99999, 'm', 't'), 99999L * 39600 / 18000);
        check.same("5: a load of most", hall.load('j', 't'), 3960);
    }

    private static void turnOfNothing() {
        Taperhall hall = new Taperhall();
        check.failsArithmetic("5: no session", hall, () -> hall.turn(1, 'm', 't'));
        check.failsArgument("5: no session, no unit", hall, () -> hall.turn(1, 'm', 'q'));
        check.failsArgument("5: no session, out of range", hall, () -> hall.turn(-1, 'm', 't'));
        hall.session();
        hall.set('a', 1, 1, 30);
        check.failsArithmetic("5: all is rest", hall, () -> hall.turn(1, 'r', 't'));
        check.same("5: to nothing", hall.turn(50, 't', 'r'), 0);
        check.same("5: from something", hall.turn(50, 't', 'm'), 50);
    }
}
