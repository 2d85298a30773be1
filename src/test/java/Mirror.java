import java.util.ArrayList;
import java.util.Comparator;
import java.util.HashMap;
import java.util.List;
import java.util.Map;
import java.util.NoSuchElementException;

/**
 * The document told a second time, with lists, maps and recursion and without a thought of speed: what the class
 * answers in long runs of calls is held against it.
 */
final class Mirror {
    private static final class One {
        int squad;
        int priority;
        int base;
        int[] paces;
        int gain = 1;
        int cost = 1;
        int tolerance = 200;
        int ceiling = 9999;
        long form;
        long fatigue;
        long damage;
        int step;
        String plan = ".".repeat(240);
        final List<Integer> felt = new ArrayList<>();
        final List<Integer> done = new ArrayList<>();
        final boolean[] ill = new boolean[300];
        final Map<Integer, Integer> backs = new HashMap<>();
        final List<String> changes = new ArrayList<>();
        final List<int[]> tests = new ArrayList<>();
        final List<Integer> results = new ArrayList<>();
        int[] camp;
        boolean qualified;

        void change(char cause, int day) {
            if (changes.size() < 40) {
                changes.add(cause + "" + day);
            }
        }
    }

    private final List<List<int[]>> sessions = new ArrayList<>();
    private final List<One> all = new ArrayList<>();
    private String typed = "";
    private int today;
    private int lanes = 8;
    private long z = 1;
    private int error;
    private int standard;

    // Sessions.

    char session() {
        if (sessions.size() == 10) {
            throw new IllegalStateException();
        }
        sessions.add(new ArrayList<>());
        return "abcdefghij".charAt(sessions.size() - 1);
    }

    private List<int[]> sets(char letter) {
        int index = "abcdefghij".indexOf(letter);
        if (index < 0 || index >= sessions.size()) {
            throw new IllegalArgumentException();
        }
        return sessions.get(index);
    }

    private static void range(long number, long least, long most) {
        if (number < least || number > most) {
            throw new IllegalArgumentException();
        }
    }

    int set(char session, int zone, int minutes, int rest) {
        List<int[]> sets = sets(session);
        range(zone, 1, 5);
        range(minutes, 1, 60);
        range(rest, 0, 30);
        for (One one : all) {
            if (one.plan.substring(today).indexOf(session) >= 0) {
                throw new UnsupportedOperationException();
            }
        }
        if (sets.size() == 6) {
            throw new IllegalStateException();
        }
        sets.add(new int[] {zone, minutes, rest});
        return sets.size();
    }

    int load(char session, char unit) {
        List<int[]> sets = sets(session);
        if ("mrt".indexOf(unit) < 0) {
            throw new IllegalArgumentException();
        }
        int sum = 0;
        for (int[] set : sets) {
            switch (unit) {
                case 'm' -> sum += set[0] * set[1];
                case 'r' -> sum += Math.max(set[0] * set[1] - set[2], 0);
                default -> sum += set[1] * List.of(0, 1, 2, 4, 7, 11).get(set[0]);
            }
        }
        return sum;
    }

    long turn(int value, char from, char to) {
        if ("mrt".indexOf(from) < 0 || "mrt".indexOf(to) < 0) {
            throw new IllegalArgumentException();
        }
        range(value, 0, 99999);
        long over = 0;
        long under = 0;
        for (int index = 0; index < sessions.size(); index++) {
            over += load((char) (97 + index), to);
            under += load((char) (97 + index), from);
        }
        if (under == 0) {
            throw new ArithmeticException();
        }
        return over * value / under;
    }

    private int feltOf(char letter) {
        return letter == '.' ? 0 : load(letter, 't') / 4;
    }

    private boolean hard(char letter) {
        return letter != '.' && sets(letter).stream().anyMatch(set -> set[0] == 5);
    }

    // The typed plan: a reader that goes down into brackets, and answers the days or leaves a fault behind.

    private static final class Reader {
        final String text;
        final int letters;
        int at;
        int fault = -1;

        Reader(String text, int letters) {
            this.text = text;
            this.letters = letters;
        }

        /** Reads parts up to what cannot be one. */
        String parts(int depth) {
            StringBuilder days = new StringBuilder();
            while (fault < 0 && at < text.length()) {
                char sign = text.charAt(at);
                if (sign == '.' || sign >= 'a' && sign < 'a' + letters) {
                    days.append(sign);
                    at++;
                } else if (Character.isDigit(sign)) {
                    at++;
                    days.append(bracket(sign - '0', depth + 1));
                } else {
                    break;
                }
            }
            if (fault < 0 && days.length() == 0) {
                fault = at;
            }
            return days.toString();
        }

        String bracket(int times, int depth) {
            if (at >= text.length() || text.charAt(at) != '(' || depth > 3) {
                fault = at;
                return "";
            }
            at++;
            String inside = parts(depth);
            if (fault < 0 && (at >= text.length() || text.charAt(at) != ')')) {
                fault = at;
            }
            at++;
            return fault < 0 ? inside.repeat(times) : "";
        }
    }

    private String unfolded() {
        Reader reader = new Reader(typed, sessions.size());
        String days = reader.parts(0);
        if (reader.fault < 0 && reader.at < typed.length()) {
            reader.fault = reader.at;
        }
        return reader.fault < 0 ? days : "!" + reader.fault;
    }

    int type(char character) {
        if ("abcdefghijklmnopqrstuvwxyz23456789.()".indexOf(character) < 0) {
            throw new IllegalArgumentException();
        }
        if (typed.length() == 24) {
            throw new IllegalStateException();
        }
        typed += character;
        return typed.length();
    }

    int wipe() {
        int length = typed.length();
        typed = "";
        return length;
    }

    int fault() {
        String days = unfolded();
        if (days.startsWith("!")) {
            return Integer.parseInt(days.substring(1));
        }
        return days.length() > 60 ? typed.length() : -1;
    }

    int unfolds() {
        if (fault() >= 0) {
            throw new IllegalStateException();
        }
        return unfolded().length();
    }

    // Athletes and plans.

    int athlete(int squad, int priority, int base, int formPace, int fatiguePace) {
        range(squad, 0, 3);
        range(priority, 0, 9);
        range(base, 0, 9999);
        range(formPace, 20, 60);
        range(fatiguePace, 3, 15);
        if (all.size() == 8) {
            throw new IllegalStateException();
        }
        One one = new One();
        one.squad = squad;
        one.priority = priority;
        one.base = base;
        one.paces = new int[] {formPace, fatiguePace};
        for (int day = 0; day < today; day++) {
            one.felt.add(0);
            one.done.add(0);
        }
        all.add(one);
        return all.size() - 1;
    }

    private One one(int athlete) {
        if (athlete < 0 || athlete >= all.size()) {
            throw new IndexOutOfBoundsException();
        }
        return all.get(athlete);
    }

    int answers(int athlete, int gain, int cost, int tolerance) {
        One one = one(athlete);
        range(gain, 1, 9);
        range(cost, 1, 9);
        range(tolerance, 20, 200);
        one.gain = gain;
        one.cost = cost;
        int before = one.tolerance;
        one.tolerance = tolerance;
        return before;
    }

    private int peakOf(One one, String plan) {
        int most = 0;
        for (int from = 0; from + 7 <= 240; from++) {
            int sum = 0;
            for (int day = from; day < from + 7; day++) {
                sum += day < today ? one.done.get(day) : feltOf(plan.charAt(day));
            }
            most = Math.max(most, sum);
        }
        return most;
    }

    int setCeiling(int athlete, int ceiling) {
        One one = one(athlete);
        range(ceiling, 100, 9999);
        if (peakOf(one, one.plan) > ceiling) {
            throw new UnsupportedOperationException();
        }
        int before = one.ceiling;
        one.ceiling = ceiling;
        return before;
    }

    int plan(int athlete, int day) {
        One one = one(athlete);
        range(day, today, 239);
        if (fault() >= 0 || day + unfolds() > 240) {
            throw new UnsupportedOperationException();
        }
        String days = unfolded();
        String next = one.plan.substring(0, day) + days + one.plan.substring(day + days.length());
        if (peakOf(one, next) > one.ceiling) {
            throw new UnsupportedOperationException();
        }
        one.plan = next;
        one.change('a', day);
        return days.length();
    }

    int shift(int athlete, int day, int by) {
        One one = one(athlete);
        range(day, today, 239);
        range(by, 1, 9);
        String next = one.plan.substring(0, day) + ".".repeat(by) + one.plan.substring(day);
        if (!next.substring(240).equals(".".repeat(by)) || peakOf(one, next.substring(0, 240)) > one.ceiling) {
            throw new UnsupportedOperationException();
        }
        one.plan = next.substring(0, 240);
        one.change('s', day);
        return one.plan.substring(day).replace(".", "").length();
    }

    char drop(int athlete, int day) {
        One one = one(athlete);
        range(day, today, 239);
        char letter = one.plan.charAt(day);
        if (letter == '.') {
            throw new NoSuchElementException();
        }
        one.plan = one.plan.substring(0, day) + '.' + one.plan.substring(day + 1);
        one.change('d', day);
        return letter;
    }

    char planned(int athlete, int day) {
        One one = one(athlete);
        range(day, 0, 239);
        return one.plan.charAt(day);
    }

    int felt(int athlete, int day) {
        One one = one(athlete);
        range(day, 0, 239);
        if (day >= today) {
            throw new NoSuchElementException();
        }
        return one.felt.get(day);
    }

    int peak(int athlete) {
        One one = one(athlete);
        return peakOf(one, one.plan);
    }

    // Days.

    int setLanes(int lanes) {
        range(lanes, 0, 8);
        int before = this.lanes;
        this.lanes = lanes;
        return before;
    }

    private boolean does(One one) {
        return !one.ill[today] && one.step == 0 && !one.backs.containsKey(today);
    }

    private void day() {
        List<One> hard = new ArrayList<>();
        for (One one : all) {
            if (does(one) && hard(one.plan.charAt(today))) {
                hard.add(one);
            }
        }
        hard.sort(Comparator.comparing((One one) -> -one.priority).thenComparing(all::indexOf));
        for (One one : all) {
            char letter = one.plan.charAt(today);
            int load = does(one) ? feltOf(letter) : 0;
            if (letter != '.' && !does(one)) {
                one.change('i', today);
            }
            if (hard.indexOf(one) >= lanes) {
                load = load / 2;
                one.change('h', today);
            }
            one.done.add(load);
            one.felt.add(one.backs.getOrDefault(today, load));
        }
        for (One one : all) {
            int load = one.felt.get(today);
            one.form += (long) one.gain * load;
            one.form -= one.form / one.paces[0];
            one.fatigue += (long) one.cost * load;
            one.fatigue -= one.fatigue / one.paces[1];
            one.damage += Math.max(load - one.tolerance, 0);
            one.damage -= one.damage / 8;
            if (one.damage > 300 && one.step == 0) {
                one.step = 1;
                one.change('x', today);
            }
        }
        for (One one : all) {
            boolean near = all.stream().anyMatch(other -> other.squad == one.squad && other.ill[today]);
            if (near && !one.ill[today] && draw() % 8 == 0) {
                one.ill[today + 1] = true;
                one.ill[today + 2] = true;
                one.ill[today + 3] = true;
                one.change('k', today);
            }
        }
        today++;
    }

    private long draw() {
        z = z * 48271 % 2147483647;
        return z;
    }

    int pass(int days) {
        range(days, 1, 30);
        if (today + days > 239) {
            throw new IllegalStateException();
        }
        for (int count = 0; count < days; count++) {
            day();
        }
        return today;
    }

    private int illDays(One one) {
        int days = 0;
        while (one.ill[today + days]) {
            days++;
        }
        return days;
    }

    private int campOn(One one, int day) {
        int behind = one.camp == null ? 0 : day - one.camp[0];
        if (behind >= 10 && behind <= 24) {
            return one.camp[1] + one.camp[1];
        }
        return behind == 1 || behind == 2 || behind == 3 ? -one.camp[1] : 0;
    }

    private long ready(One one) {
        return one.base + one.form - one.fatigue + campOn(one, today);
    }

    long body(int athlete, char what) {
        One one = one(athlete);
        return switch (what) {
            case 'f' -> one.form;
            case 'g' -> one.fatigue;
            case 'd' -> one.damage;
            case 'r' -> ready(one);
            case 's' -> one.step;
            case 'k' -> illDays(one);
            case 'c' -> campOn(one, today);
            default -> throw new IllegalArgumentException();
        };
    }

    int ill(int athlete, int days) {
        One one = one(athlete);
        range(days, 1, 14);
        for (int day = today; day < today + days; day++) {
            one.ill[day] = true;
        }
        return illDays(one);
    }

    int comeBack(int athlete, int load) {
        One one = one(athlete);
        range(load, 1, 200);
        if (one.ill[today] || one.step == 0 || one.backs.containsKey(today)) {
            throw new UnsupportedOperationException();
        }
        one.backs.put(today, load);
        boolean passes = one.step * 20 - 10 <= load && load <= one.step * 20;
        if (passes && one.step == 4) {
            one.step = 0;
            one.damage = 0;
        } else {
            one.step = passes ? one.step + 1 : one.step == 1 ? 1 : one.step - 1;
        }
        return one.step;
    }

    int changes(int athlete) {
        return one(athlete).changes.size();
    }

    private String change(int athlete, int index) {
        List<String> changes = one(athlete).changes;
        if (index < 0 || index >= changes.size()) {
            throw new NoSuchElementException();
        }
        return changes.get(index);
    }

    char cause(int athlete, int index) {
        return change(athlete, index).charAt(0);
    }

    int changeDay(int athlete, int index) {
        return Integer.parseInt(change(athlete, index).substring(1));
    }

    int camp(int athlete, int days) {
        One one = one(athlete);
        range(days, 1, 21);
        one.camp = new int[] {today + days - 1, days};
        return one.camp[0];
    }

    // Tests and fits.

    int setError(int error) {
        range(error, 0, 99);
        int before = this.error;
        this.error = error;
        return before;
    }

    int test(int athlete) {
        One one = one(athlete);
        if (one.tests.size() == 12) {
            throw new IllegalStateException();
        }
        int told = (int) (ready(one) + draw() % (error + error + 1) - error);
        one.tests.add(new int[] {today, told});
        return told;
    }

    private static long level(List<Integer> loads, One like, int formPace, int fatiguePace) {
        long form = 0;
        long fatigue = 0;
        for (int load : loads) {
            form = form + (long) like.gain * load;
            form = form - form / formPace;
            fatigue = fatigue + (long) like.cost * load;
            fatigue = fatigue - fatigue / fatiguePace;
        }
        return form - fatigue;
    }

    private List<long[]> rivalsOf(One one) {
        if (one.tests.size() < 3) {
            throw new UnsupportedOperationException();
        }
        List<long[]> fits = new ArrayList<>();
        for (int form = 20; form <= 60; form += 4) {
            for (int fatigue = 3; fatigue <= 15; fatigue++) {
                List<Long> left = new ArrayList<>();
                long sum = 0;
                for (int[] test : one.tests) {
                    left.add(test[1] - level(one.felt.subList(0, test[0]), one, form, fatigue));
                    sum += left.get(left.size() - 1);
                }
                long base = sum / one.tests.size();
                long fault = 0;
                for (long each : left) {
                    fault += (each - base) * (each - base);
                }
                fits.add(new long[] {form, fatigue, base, fault});
            }
        }
        long least = fits.stream().mapToLong(fit -> fit[3]).min().getAsLong();
        fits.removeIf(fit -> fit[3] > 2 * least);
        return fits;
    }

    private long[] rival(One one, int rival) {
        List<long[]> fits = rivalsOf(one);
        if (rival == -1) {
            return fits.stream().min(Comparator.comparingLong(fit -> fit[3])).get();
        }
        if (rival < 0 || rival >= fits.size()) {
            throw new NoSuchElementException();
        }
        return fits.get(rival);
    }

    int rivals(int athlete) {
        return rivalsOf(one(athlete)).size();
    }

    long fit(int athlete, int rival, char what) {
        One one = one(athlete);
        if ("fgbe".indexOf(what) < 0) {
            throw new IllegalArgumentException();
        }
        return rival(one, rival)["fgbe".indexOf(what)];
    }

    private List<Integer> loads(One one, int from, int until) {
        List<Integer> loads = new ArrayList<>();
        for (char letter : one.plan.substring(from, until).toCharArray()) {
            loads.add(feltOf(letter));
        }
        return loads;
    }

    long forecast(int athlete, int rival, int day) {
        One one = one(athlete);
        range(day, today, 239);
        long[] fit = rival(one, rival);
        List<Integer> loads = new ArrayList<>(one.felt);
        loads.addAll(loads(one, today, day));
        return fit[2] + level(loads, one, (int) fit[0], (int) fit[1]);
    }

    // Races.

    int setStandard(int standard) {
        range(standard, -9999, 99999);
        int before = this.standard;
        this.standard = standard;
        return before;
    }

    int race(int athlete) {
        One one = one(athlete);
        if (one.ill[today] || one.step > 0) {
            throw new UnsupportedOperationException();
        }
        int result = (int) (ready(one) - draw() % 21);
        one.results.add(result);
        one.qualified |= result >= standard;
        return result;
    }

    boolean isQualified(int athlete) {
        return one(athlete).qualified;
    }

    int best(int athlete) {
        return one(athlete).results.stream().max(Comparator.naturalOrder()).orElseThrow(NoSuchElementException::new);
    }

    int selected(int places, int index) {
        range(places, 1, 8);
        List<Integer> numbers = new ArrayList<>();
        for (int number = 0; number < all.size(); number++) {
            if (all.get(number).qualified) {
                numbers.add(number);
            }
        }
        numbers.sort(Comparator.comparing((Integer number) -> -best(number)));
        if (index < 0 || index >= Math.min(places, numbers.size())) {
            throw new NoSuchElementException();
        }
        return numbers.get(index);
    }

    // Tapers.

    private record Best(long level, String choices) {
    }

    private static Best search(One one, List<Integer> loads, long form, long fatigue) {
        if (loads.isEmpty()) {
            return new Best(form - fatigue, "");
        }
        List<Best> three = new ArrayList<>();
        int full = loads.get(0);
        for (int load : new int[] {full, full / 2, 0}) {
            long more = form + (long) one.gain * load;
            long tired = fatigue + (long) one.cost * load;
            three.add(search(one, loads.subList(1, loads.size()), more - more / one.paces[0],
                tired - tired / one.paces[1]));
        }
        int at = 0;
        for (int index = 1; index < 3; index++) {
            at = three.get(index).level() > three.get(at).level() ? index : at;
        }
        return new Best(three.get(at).level(), "fhn".charAt(at) + three.get(at).choices());
    }

    private Best bestTaper(One one, int day, int days) {
        range(day, 0, 239);
        range(days, 1, 6);
        range(day - days, today, 239);
        long form = one.form;
        long fatigue = one.fatigue;
        for (int load : loads(one, today, day - days)) {
            form += (long) one.gain * load;
            form -= form / one.paces[0];
            fatigue += (long) one.cost * load;
            fatigue -= fatigue / one.paces[1];
        }
        return search(one, loads(one, day - days, day), form, fatigue);
    }

    long taper(int athlete, int day, int days) {
        One one = one(athlete);
        return one.base + bestTaper(one, day, days).level() + campOn(one, day);
    }

    char taperAt(int athlete, int day, int days, int index) {
        String choices = bestTaper(one(athlete), day, days).choices();
        if (index < 0 || index >= choices.length()) {
            throw new NoSuchElementException();
        }
        return choices.charAt(index);
    }

    // The hall.

    int seed(int z) {
        range(z, 1, 2147483646);
        int before = (int) this.z;
        this.z = z;
        return before;
    }

    int today() {
        return today;
    }

    long checksum() {
        List<Long> parts = new ArrayList<>();
        for (One one : all) {
            parts.addAll(List.of(one.form, one.fatigue, one.damage, (long) one.step));
            parts.addAll(List.of((long) one.changes.size(), (long) one.tests.size()));
        }
        parts.addAll(List.of((long) today, z));
        long sum = 7;
        for (long part : parts) {
            sum = 31 * sum + part;
        }
        return sum;
    }

    float fitShare() {
        if (all.isEmpty()) {
            throw new ArithmeticException();
        }
        long fit = all.stream().filter(one -> one.step == 0 && !one.ill[today]).count();
        return (float) fit / (float) all.size();
    }

    double meanFelt() {
        if (all.isEmpty() || today == 0) {
            throw new ArithmeticException();
        }
        long sum = 0;
        long days = 0;
        for (One one : all) {
            for (int load : one.felt) {
                sum += load;
                days++;
            }
        }
        return (double) sum / (double) days;
    }

    boolean isSound() {
        boolean sound = true;
        for (One one : all) {
            sound &= peakOf(one, one.plan) <= one.ceiling && one.damage >= 0 && one.step >= 0 && one.step <= 4;
            sound &= !one.qualified || !one.results.isEmpty();
        }
        return sound;
    }
}
