/** Promises 33 to 37: standards, races, and who is chosen. */
public final class RacesTest {
    private static final Check check = new Check("RacesTest");

    private RacesTest() {
    }

    public static void main(String[] args) {
        setStandard();
        race();
        raceRefused();
        qualified();
        best();
        selected();
        selectedRanges();
        check.end();
    }

    private static void setStandard() {
        Taperhall hall = new Taperhall();
        check.same("33: at first", hall.setStandard(-9999), 0);
        check.same("33: least", hall.setStandard(99999), -9999);
        check.same("33: most", hall.setStandard(1), 99999);
        check.failsArgument("33: below", hall, () -> hall.setStandard(-10000));
        check.failsArgument("33: above", hall, () -> hall.setStandard(100000));
    }

    private static void race() {
        Taperhall hall = new Taperhall();
        hall.athlete(0, 0, 700, 20, 3);
        hall.seed(77);
        long z = 77;
        for (int count = 0; count < 30; count++) {
            z = Halls.after(z);
            check.same("34: result", hall.race(0), 700 - z % 21);
        }
        check.same("34: z is drawn each time", hall.seed(1), z);
        hall.camp(0, 4);
        hall.pass(4);
        check.same("34: a camp is in it", hall.race(0), 700 - 4 - Halls.after(1) % 21);
    }

    private static void raceRefused() {
        Taperhall hall = new Taperhall();
        hall.athlete(0, 0, 700, 20, 3);
        check.failsIndex("34: athlete 1", hall, () -> hall.race(1));
        check.failsIndex("34: athlete -1", hall, () -> hall.race(-1));
        hall.ill(0, 1);
        check.failsUnsupported("34: ill", hall, () -> hall.race(0));
        check.failsElement("36: no result", hall, () -> hall.best(0));
        hall.pass(1);
        hall.seed(1);
        check.same("34: ill no more", hall.race(0), 700 - Halls.after(1) % 21);
        Taperhall other = InjuryTest.injured(20);
        check.failsUnsupported("34: injured", other, () -> other.race(0));
        for (int step = 1; step <= 4; step++) {
            other.comeBack(0, 20 * step);
            if (step < 4) {
                check.failsUnsupported("34: injured on a step", other, () -> other.race(0));
                other.pass(1);
            }
        }
        other.seed(1);
        check.same("34: injured no more", other.race(0), other.body(0, 'r') - Halls.after(1) % 21);
    }

    private static void qualified() {
        Taperhall hall = new Taperhall();
        hall.athlete(0, 0, 700, 20, 3);
        hall.athlete(0, 0, 700, 20, 3);
        check.holds("35: not before a race", !hall.isQualified(0));
        hall.seed(1);
        int result = (int) (700 - Halls.after(1) % 21);
        hall.setStandard(result + 1);
        check.same("34: less than the standard", hall.race(0), result);
        check.holds("35: not by less", !hall.isQualified(0));
        hall.setStandard(result);
        check.holds("35: not by a race ahead of the standard", !hall.isQualified(0));
        hall.seed(1);
        hall.race(0);
        check.holds("35: just the standard", hall.isQualified(0));
        check.holds("35: of one athlete alone", !hall.isQualified(1));
        hall.setStandard(99999);
        check.holds("35: for good", hall.isQualified(0));
        hall.race(0);
        check.holds("35: for good, behind another race", hall.isQualified(0));
        check.failsIndex("35: athlete 2", hall, () -> hall.isQualified(2));
        check.failsIndex("35: athlete -1", hall, () -> hall.isQualified(-1));
    }

    private static void best() {
        Taperhall hall = new Taperhall();
        hall.athlete(0, 0, 0, 20, 3);
        hall.athlete(0, 0, 50, 20, 3);
        check.failsElement("36: none", hall, () -> hall.best(0));
        check.failsIndex("36: athlete 2", hall, () -> hall.best(2));
        check.failsIndex("36: athlete -1", hall, () -> hall.best(-1));
        hall.seed(5);
        int most = Integer.MIN_VALUE;
        for (int count = 0; count < 12; count++) {
            most = Math.max(most, hall.race(0));
            check.same("36: the best so far", hall.best(0), most);
        }
        check.holds("36: below 0", most <= 0);
        check.failsElement("36: of the other one", hall, () -> hall.best(1));
        hall.setStandard(99999);
        Taperhall other = new Taperhall();
        other.athlete(0, 0, 0, 20, 3);
        other.race(0);
        check.same("36: a first result below 0 is the best", other.best(0), -(Halls.after(1) % 21));
    }

    private static void selected() {
        Taperhall hall = new Taperhall();
        int[] bases = {500, 700, 500, 900, 100, 700, 300, 500};
        for (int base : bases) {
            hall.athlete(0, 0, base, 20, 3);
        }
        hall.setStandard(200);
        for (int number = 0; number < 8; number++) {
            if (number != 6) {
                hall.seed(1);
                hall.race(number);
            }
        }
        int[] order = {3, 1, 5, 0, 2, 7};
        for (int places = 1; places <= 8; places++) {
            for (int index = 0; index < 9; index++) {
                int wanted = places;
                int rank = index;
                if (index < places && index < order.length) {
                    check.same("37: " + index + " of " + places, hall.selected(places, index), order[index]);
                } else {
                    check.failsElement("37: " + index + " of " + places, hall, () -> hall.selected(wanted, rank));
                }
            }
        }
        hall.setStandard(99999);
        hall.seed(1);
        hall.camp(7, 21);
        hall.pass(30);
        hall.race(7);
        check.same("37: by the best results, that qualify or not", hall.selected(8, 3), 7);
        check.same("37: the others follow", hall.selected(8, 4), 0);
    }

    private static void selectedRanges() {
        Taperhall hall = new Taperhall();
        check.failsElement("37: no athletes", hall, () -> hall.selected(8, 0));
        check.failsElement("37: no athletes, index -1", hall, () -> hall.selected(1, -1));
        hall.athlete(0, 0, 700, 20, 3);
        check.failsElement("37: none qualified", hall, () -> hall.selected(1, 0));
        hall.race(0);
        check.same("37: one", hall.selected(8, 0), 0);
        check.failsArgument("37: 0 places", hall, () -> hall.selected(0, 0));
        check.failsArgument("37: 9 places", hall, () -> hall.selected(9, 0));
        check.failsElement("37: index -1", hall, () -> hall.selected(1, -1));
        check.failsElement("37: the least int", hall, () -> hall.selected(8, Integer.MIN_VALUE));
        check.failsArgument("37: 0 places, index -1", hall, () -> hall.selected(0, -1));
        check.failsArgument("37: 9 places, no such one", hall, () -> hall.selected(9, 9));
        check.failsElement("37: index 1", hall, () -> hall.selected(1, 1));
        check.failsElement("37: the last int", hall, () -> hall.selected(1, Integer.MAX_VALUE));
    }
}
