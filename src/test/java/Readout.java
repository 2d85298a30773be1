/** All that a hall tells of itself, as one text; what it changes to learn it, it puts back. */
final class Readout {
    private static final int DAYS = 240;

    private Readout() {
    }

    static String of(Taperhall hall) {
        StringBuilder text = new StringBuilder();
        text.append("day ").append(hall.today()).append(" sum ").append(hall.checksum());
        text.append(" fault ").append(hall.fault()).append(" unfolds ").append(answer(() -> hall.unfolds()));
        int lanes = hall.setLanes(0);
        hall.setLanes(lanes);
        int error = hall.setError(0);
        hall.setError(error);
        int standard = hall.setStandard(0);
        hall.setStandard(standard);
        text.append(" lanes ").append(lanes).append(" error ").append(error).append(" standard ").append(standard);
        text.append(" sound ").append(hall.isSound()).append(" fit ").append(answer(() -> hall.fitShare()));
        for (int index = 0; index < 8; index++) {
            int rank = index;
            text.append(" chosen ").append(answer(() -> hall.selected(8, rank)));
        }
        for (char letter = 'a'; letter <= 'j'; letter++) {
            for (char unit : "mrt".toCharArray()) {
                char one = letter;
                text.append(' ').append(answer(() -> hall.load(one, unit)));
            }
        }
        for (int athlete = 0; athlete < 8; athlete++) {
            if (isThere(hall, athlete)) {
                tell(hall, athlete, text);
            }
        }
        return text.toString();
    }

    private static boolean isThere(Taperhall hall, int athlete) {
        return !answer(() -> hall.changes(athlete)).equals("IndexOutOfBoundsException");
    }

    private static void tell(Taperhall hall, int athlete, StringBuilder text) {
        text.append("\nathlete ").append(athlete).append(' ');
        for (int day = 0; day < DAYS; day++) {
            text.append(hall.planned(athlete, day));
        }
        for (int day = 0; day < hall.today(); day++) {
            text.append(' ').append(hall.felt(athlete, day));
        }
        for (char what : "fgdrskc".toCharArray()) {
            text.append(' ').append(what).append(hall.body(athlete, what));
        }
        for (int index = 0; index < hall.changes(athlete); index++) {
            text.append(' ').append(hall.cause(athlete, index)).append(hall.changeDay(athlete, index));
        }
        int ceiling = hall.setCeiling(athlete, 9999);
        hall.setCeiling(athlete, ceiling);
        text.append(" ceiling ").append(ceiling).append(" peak ").append(hall.peak(athlete));
        text.append(" qualified ").append(hall.isQualified(athlete));
        text.append(" best ").append(answer(() -> hall.best(athlete)));
        text.append(" rivals ").append(answer(() -> hall.rivals(athlete)));
        for (char what : "fgbe".toCharArray()) {
            text.append(' ').append(answer(() -> hall.fit(athlete, -1, what)));
        }
        // A camp gives on later days, which only a taper tells.
        for (int ahead = 1; ahead <= 46; ahead += 3) {
            int day = hall.today() + ahead;
            text.append(' ').append(answer(() -> hall.taper(athlete, day, 1)));
        }
    }

    /** The answer of a call as a text, or the name of what it throws. */
    static String answer(Check.Call call) {
        try {
            return String.valueOf(call.run());
        } catch (RuntimeException e) {
            return e.getClass().getSimpleName();
        }
    }
}
