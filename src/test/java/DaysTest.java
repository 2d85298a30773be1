/** Promises 19 to 21: lanes, days that go by, and bodies. */
public final class DaysTest {
    private static final Check check = new Check("DaysTest");

    private DaysTest() {
    }

    public static void main(String[] args) {
        setLanes();
        lanesByPriority();
        lanesOfThoseWhoCan();
        pass();
        fades();
        damage();
        injury();
        body();
        check.end();
    }

    private static void setLanes() {
        Taperhall hall = new Taperhall();
        check.same("19: at first", hall.setLanes(0), 8);
        check.same("19: none", hall.setLanes(8), 0);
        check.failsArgument("19: -1", hall, () -> hall.setLanes(-1));
        check.failsArgument("19: 9", hall, () -> hall.setLanes(9));
        check.same("19: as before", hall.setLanes(1), 8);
    }

    /** Sessions a of 165 and b of 60 felt, a being hard. */
    private static Taperhall ready() {
        Taperhall hall = new Taperhall();
        Halls.session(hall, 5, 60);
        Halls.session(hall, 3, 60);
        return hall;
    }

    private static void lanesByPriority() {
        int[] priorities = {5, 9, 5, 0, 9, 5};
        int[] order = {1, 4, 0, 2, 5, 3};
        for (int lanes = 0; lanes <= 8; lanes++) {
            Taperhall hall = ready();
            hall.setLanes(lanes);
            for (int priority : priorities) {
                Halls.plan(hall, Halls.athlete(hall, 0, priority), 0, "a");
            }
            hall.pass(1);
            for (int rank = 0; rank < order.length; rank++) {
                int due = rank < lanes ? 165 : 82;
                check.same("20: lanes " + lanes + " rank " + rank, hall.felt(order[rank], 0), due);
                check.sameText("20: its change", Halls.changes(hall, order[rank]), rank < lanes ? "a0" : "a0 h0");
            }
        }
    }

    private static void lanesOfThoseWhoCan() {
        Taperhall hall = ready();
        hall.setLanes(1);
        for (int priority = 9; priority > 5; priority--) {
            Halls.athlete(hall, 9 - priority, priority);
        }
        Halls.plan(hall, 0, 0, "a");
        Halls.plan(hall, 1, 0, "b");
        Halls.plan(hall, 2, 0, "a");
        Halls.plan(hall, 3, 0, "a");
        hall.ill(0, 1);
        hall.pass(1);
        check.same("20: who is ill takes no lane", hall.felt(0, 0), 0);
        check.same("20: who is not at a hard one takes none", hall.felt(1, 0), 60);
        check.same("20: the next one has it", hall.felt(2, 0), 165);
        check.same("20: the last one has not", hall.felt(3, 0), 82);
        check.sameText("20: not done", Halls.changes(hall, 0), "a0 i0");
        check.sameText("20: done", Halls.changes(hall, 1), "a0");
    }

    private static void pass() {
        Taperhall hall = new Taperhall();
        check.same("20: one", hall.pass(1), 1);
        check.same("20: thirty", hall.pass(30), 31);
        check.failsArgument("20: 0", hall, () -> hall.pass(0));
        check.failsArgument("20: 31", hall, () -> hall.pass(31));
        check.failsArgument("20: -1", hall, () -> hall.pass(-1));
        Halls.passTo(hall, 210);
        check.failsState("20: above 239", hall, () -> hall.pass(30));
        check.failsArgument("20: above both", hall, () -> hall.pass(31));
        check.same("20: to the last day", hall.pass(29), 239);
        check.failsState("20: beyond it", hall, () -> hall.pass(1));
        check.same("20: the last day", hall.today(), 239);
    }

    private static void fades() {
        Taperhall hall = ready();
        hall.athlete(0, 0, 100, 20, 3);
        hall.answers(0, 2, 3, 200);
        Halls.plan(hall, 0, 0, "ba");
        hall.pass(1);
        check.same("20: form", hall.body(0, 'f'), 120 - 6);
        check.same("20: fatigue", hall.body(0, 'g'), 180 - 60);
        hall.pass(1);
        // Form 114 + 330 = 444 less 22, fatigue 120 + 495 = 615 less 205.
        check.same("20: form of two", hall.body(0, 'f'), 422);
        check.same("20: fatigue of two", hall.body(0, 'g'), 410);
        hall.pass(1);
        check.same("20: form of rest", hall.body(0, 'f'), 422 - 21);
        check.same("20: fatigue of rest", hall.body(0, 'g'), 410 - 136);
        check.same("20: ready", hall.body(0, 'r'), 100 + 401 - 274);
        hall.pass(30);
        check.same("20: a fatigue below its pace stays", hall.body(0, 'g'), 2);
    }

    private static void damage() {
        Taperhall hall = ready();
        Halls.athlete(hall, 0, 0);
        hall.answers(0, 1, 1, 60);
        Halls.plan(hall, 0, 0, "baa");
        hall.pass(1);
        check.same("20: just the tolerance", hall.body(0, 'd'), 0);
        hall.pass(1);
        check.same("20: above it", hall.body(0, 'd'), 105 - 13);
        hall.pass(1);
        check.same("20: more", hall.body(0, 'd'), 197 - 24);
        hall.pass(1);
        check.same("20: less", hall.body(0, 'd'), 173 - 21);
        hall.pass(30);
        check.same("20: a damage below 8 stays", hall.body(0, 'd'), 7);
    }

    private static void injury() {
        int[][] cases = {{361, 0}, {362, 0}, {363, 1}, {364, 1}};
        for (int[] one : cases) {
            Taperhall hall = new Taperhall();
            hall.session();
            int minutes = one[0] * 4;
            // Felt is the quarter of t: so much in sets of the zone 4 and 1.
            int sevens = minutes / 7;
            while (sevens > 0) {
                hall.set('a', 4, Math.min(60, sevens), 0);
                sevens -= Math.min(60, sevens);
            }
            if (minutes % 7 > 0) {
                hall.set('a', 1, minutes % 7, 0);
            }
            hall.athlete(0, 0, 0, 20, 3);
            hall.answers(0, 1, 1, 20);
            Halls.plan(hall, 0, 0, "aa");
            hall.pass(1);
            int damage = one[0] - 20;
            check.same("20: felt", hall.felt(0, 0), one[0]);
            check.same("20: damage", hall.body(0, 'd'), damage - damage / 8);
            check.same("20: injured by " + one[0], hall.body(0, 's'), one[1]);
            check.sameText("20: the change", Halls.changes(hall, 0), one[1] == 1 ? "a0 x0" : "a0");
        }
    }

    private static void body() {
        Taperhall hall = ready();
        hall.athlete(0, 0, 77, 20, 3);
        for (char what : "fgdskc".toCharArray()) {
            check.same("21: at first " + what, hall.body(0, what), 0);
        }
        check.same("21: at first r", hall.body(0, 'r'), 77);
        for (char what : "abehqFGR.".toCharArray()) {
            check.failsArgument("21: " + what, hall, () -> hall.body(0, what));
        }
        check.failsArgument("21: 0", hall, () -> hall.body(0, (char) 0));
        check.failsIndex("21: athlete 1", hall, () -> hall.body(1, 'f'));
        check.failsIndex("21: athlete -1, no such thing", hall, () -> hall.body(-1, 'q'));
        hall.ill(0, 5);
        check.same("21: ill", hall.body(0, 'k'), 5);
        hall.pass(2);
        check.same("21: ill still", hall.body(0, 'k'), 3);
        hall.pass(4);
        check.same("21: ill no more", hall.body(0, 'k'), 0);
    }
}
