import java.util.ArrayList;
import java.util.List;

/** Promises 38 and 39: the best taper, and what it does on each day. */
public final class TaperTest {
    private static final Check check = new Check("TaperTest");

    private TaperTest() {
    }

    public static void main(String[] args) {
        ranges();
        rests();
        alikeTapers();
        bestOfAll();
        inThought();
        check.end();
    }

    private static void ranges() {
        Taperhall hall = new Taperhall();
        Halls.athlete(hall, 0, 0);
        check.failsIndex("38: athlete 1", hall, () -> hall.taper(1, 0, 0));
        check.failsIndex("38: athlete -1", hall, () -> hall.taper(-1, 9, 2));
        check.failsArgument("38: 0 days", hall, () -> hall.taper(0, 9, 0));
        check.failsArgument("38: 7 days", hall, () -> hall.taper(0, 9, 7));
        check.failsArgument("38: -1 days", hall, () -> hall.taper(0, 9, -1));
        check.failsArgument("38: day 240", hall, () -> hall.taper(0, 240, 2));
        check.failsArgument("38: day -1", hall, () -> hall.taper(0, -1, 1));
        check.failsArgument("38: day 0", hall, () -> hall.taper(0, 0, 1));
        check.failsArgument("38: the least int", hall, () -> hall.taper(0, Integer.MIN_VALUE, 6));
        check.same("38: the last day", hall.taper(0, 239, 6), 1000);
        hall.pass(4);
        check.failsArgument("38: a day ahead of now", hall, () -> hall.taper(0, 9, 6));
        check.failsArgument("39: a day ahead of now", hall, () -> hall.taperAt(0, 9, 6, 0));
        check.same("38: from now", hall.taper(0, 9, 5), 1000);
        check.failsArgument("38: now itself", hall, () -> hall.taper(0, 4, 1));
        check.failsIndex("39: athlete 1", hall, () -> hall.taperAt(1, 0, 0, -1));
        check.failsIndex("39: athlete -1", hall, () -> hall.taperAt(-1, 9, 2, 0));
        check.failsArgument("39: 0 days", hall, () -> hall.taperAt(0, 9, 0, 0));
        check.failsArgument("39: 7 days", hall, () -> hall.taperAt(0, 19, 7, 0));
        check.failsArgument("39: day 240", hall, () -> hall.taperAt(0, 240, 2, 0));
        check.failsArgument("39: day 240, no such day", hall, () -> hall.taperAt(0, 240, 2, 2));
        check.failsElement("39: index 2 of 2", hall, () -> hall.taperAt(0, 9, 2, 2));
        check.failsElement("39: the last int", hall, () -> hall.taperAt(0, 9, 2, Integer.MAX_VALUE));
        check.failsElement("39: index -1", hall, () -> hall.taperAt(0, 9, 2, -1));
        check.failsElement("39: the least int", hall, () -> hall.taperAt(0, 9, 2, Integer.MIN_VALUE));
        check.failsArgument("39: 0 days, index -1", hall, () -> hall.taperAt(0, 9, 0, -1));
        check.failsArgument("39: a day ahead of now, index -1", hall, () -> hall.taperAt(0, 9, 6, -1));
        check.failsIndex("39: athlete 1, index -1", hall, () -> hall.taperAt(1, 9, 2, -1));
    }

    private static String choices(Taperhall hall, int athlete, int day, int days) {
        StringBuilder text = new StringBuilder();
        for (int index = 0; index < days; index++) {
            text.append(hall.taperAt(athlete, day, days, index));
        }
        return text.toString();
    }

    private static void rests() {
        Taperhall hall = new Taperhall();
        Halls.athlete(hall, 0, 0);
        for (int days = 1; days <= 6; days++) {
            check.sameText("39: rests alike", choices(hall, 0, 10, days), "f".repeat(days));
        }
    }

    private static void alikeTapers() {
        // A load of 1 halves to 0: the half and none are alike, and h goes ahead of n.
        Taperhall hall = new Taperhall();
        hall.session();
        hall.set('a', 1, 7, 0);
        hall.athlete(0, 0, 0, 20, 15);
        hall.answers(0, 1, 9, 200);
        Halls.plan(hall, 0, 0, "a.a");
        check.same("38: without any load", hall.taper(0, 3, 3), 0);
        check.sameText("39: of like ones", choices(hall, 0, 3, 3), "hfh");
    }

    /** The best level, and the first of the best tapers in the order of f, h and n. */
    private static Object[] search(List<Integer> loads, int at, long form, long fatigue, int[] how) {
        if (at == loads.size()) {
            return new Object[] {form - fatigue, ""};
        }
        Object[] best = null;
        for (char choice : "fhn".toCharArray()) {
            int load = choice == 'f' ? loads.get(at) : choice == 'h' ? loads.get(at) / 2 : 0;
            long more = form + (long) how[0] * load;
            long tired = fatigue + (long) how[1] * load;
            Object[] rest = search(loads, at + 1, more - more / how[2], tired - tired / how[3], how);
            if (best == null || (long) rest[0] > (long) best[0]) {
                best = new Object[] {rest[0], choice + (String) rest[1]};
            }
        }
        return best;
    }

    private static void bestOfAll() {
        int[][] hows = {{2, 3, 20, 3}, {1, 2, 40, 7}, {3, 4, 60, 15}, {1, 9, 24, 3}, {9, 1, 33, 11}, {5, 6, 27, 4}};
        for (int[] how : hows) {
            Taperhall hall = new Taperhall();
            Halls.session(hall, 3, 60);
            Halls.session(hall, 2, 33);
            Halls.session(hall, 5, 60);
            hall.athlete(0, 0, 200, how[2], how[3]);
            hall.answers(0, how[0], how[1], 200);
            Halls.plan(hall, 0, 0, "4(abc.ba)");
            hall.pass(5);
            for (int day = 6; day <= 14; day++) {
                for (int days = 1; days <= Math.min(6, day - 5); days++) {
                    long form = hall.body(0, 'f');
                    long fatigue = hall.body(0, 'g');
                    List<Integer> loads = new ArrayList<>();
                    for (int gone = 5; gone < day; gone++) {
                        char letter = hall.planned(0, gone);
                        int load = letter == '.' ? 0 : hall.load(letter, 't') / 4;
                        if (gone < day - days) {
                            form += (long) how[0] * load;
                            form -= form / how[2];
                            fatigue += (long) how[1] * load;
                            fatigue -= fatigue / how[3];
                        } else {
                            loads.add(load);
                        }
                    }
                    Object[] due = search(loads, 0, form, fatigue, how);
                    check.sameText("39: day " + day + " days " + days, choices(hall, 0, day, days), (String) due[1]);
                    check.same("38: day " + day + " days " + days, hall.taper(0, day, days), 200 + (long) due[0]);
                }
            }
        }
    }

    private static void inThought() {
        Taperhall hall = new Taperhall();
        Halls.session(hall, 5, 60);
        Halls.athlete(hall, 0, 0);
        hall.answers(0, 9, 1, 20);
        Halls.plan(hall, 0, 0, "9(a)");
        long due = hall.taper(0, 6, 4);
        hall.setLanes(0);
        check.same("38: without lanes", hall.taper(0, 6, 4), due);
        hall.ill(0, 9);
        check.same("38: without illness", hall.taper(0, 6, 4), due);
        hall.camp(0, 4);
        check.same("38: a camp of the day is in it", hall.taper(0, 6, 4), due - 4);
        check.same("38: no camp on that day", hall.taper(0, 7, 4) - hall.taper(0, 7, 1), 0);
        check.sameText("39: all of it", choices(hall, 0, 6, 4), "ffff");
        check.same("38: nothing is done by it", hall.body(0, 'f'), 0);
        Taperhall other = InjuryTest.injured(20);
        Halls.plan(other, 0, 1, "a");
        long injured = other.taper(0, 2, 1);
        long form = other.body(0, 'f');
        long fatigue = other.body(0, 'g');
        long full = form + 60 - (form + 60) / 20 - (fatigue + 60 - (fatigue + 60) / 5);
        long none = form - form / 20 - (fatigue - fatigue / 5);
        check.same("38: without injuries", injured, 1000 + Math.max(full, none));
        other.comeBack(0, 200);
        check.same("38: without comings back", other.taper(0, 2, 1), injured);
    }
}
