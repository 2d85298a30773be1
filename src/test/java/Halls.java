/** Steps that many tests take to make a hall ready. */
final class Halls {
    private Halls() {
    }

    /** Adds a session of one set without rest: its felt load is the minutes times the weight of the zone by 4. */
    static char session(Taperhall hall, int zone, int minutes) {
        char letter = hall.session();
        hall.set(letter, zone, minutes, 0);
        return letter;
    }

    static void type(Taperhall hall, String plan) {
        hall.wipe();
        for (char sign : plan.toCharArray()) {
            hall.type(sign);
        }
    }

    static int plan(Taperhall hall, int athlete, int day, String plan) {
        type(hall, plan);
        return hall.plan(athlete, day);
    }

    /** Adds an athlete of the squad with the priority, and paces of 20 and 5. */
    static int athlete(Taperhall hall, int squad, int priority) {
        return hall.athlete(squad, priority, 1000, 20, 5);
    }

    static void passTo(Taperhall hall, int day) {
        while (hall.today() < day) {
            hall.pass(Math.min(30, day - hall.today()));
        }
    }

    /** The planned letters of some days. */
    static String days(Taperhall hall, int athlete, int from, int until) {
        StringBuilder text = new StringBuilder();
        for (int day = from; day < until; day++) {
            text.append(hall.planned(athlete, day));
        }
        return text.toString();
    }

    /** The changes as a text, such as "a0 d3". */
    static String changes(Taperhall hall, int athlete) {
        StringBuilder text = new StringBuilder();
        for (int index = 0; index < hall.changes(athlete); index++) {
            text.append(index == 0 ? "" : " ").append(hall.cause(athlete, index)).append(hall.changeDay(athlete, index));
        }
        return text.toString();
    }

    /** The number that follows z. */
    static long after(long z) {
        return z * 48271 % 2147483647L;
    }

    /** A z whose next number has a rest by 8 that is 0, or that is not, as asked. */
    static int seedThatCatches(boolean catches) {
        for (int z = 1; ; z++) {
            if ((after(z) % 8 == 0) == catches) {
                return z;
            }
        }
    }
}
