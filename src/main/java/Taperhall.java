import java.util.ArrayList;
import java.util.NoSuchElementException;

/**
 * A hall of athletes whose load is planned, done, felt and taken away again, day by day.
 *
 * Every method of the face looks at its arguments in the order in which its exceptions are listed and changes
 * something only behind the last of these looks, so that a call which throws changes nothing.
 */
public final class Taperhall {
    private static final int DAYS = 240;
    private static final int LAST_DAY = DAYS - 1;
    private static final int WEEK = 7;
    private static final char REST = '.';

    private static final int MOST_SESSIONS = 10;
    private static final int MOST_SETS = 6;
    private static final int MOST_MINUTES = 60;
    private static final int MOST_REST = 30;
    private static final int HARDEST = 5;
    private static final int[] WEIGHTS = {1, 2, 4, 7, 11};
    private static final int MOST_TURNED = 99999;

    private static final int MOST_TYPED = 24;
    private static final int MOST_UNFOLDED = 60;
    private static final int DEEPEST = 3;
    private static final int NO_FAULT = -1;

    private static final int MOST_ATHLETES = 8;
    private static final int MOST_CHANGES = 40;
    private static final int MOST_LANES = 8;
    private static final int MOST_PASSED = 30;
    private static final int MOST_SHIFTED = 9;
    private static final int TENDON = 300;
    private static final int STEPS = 4;
    private static final int STEP_LOAD = 20;
    private static final int STEP_SLACK = 10;
    private static final int CAUGHT_DAYS = 3;
    private static final int CATCHING = 8;

    private static final int FACTOR = 48271;
    private static final int MODULUS = 2147483647;
    private static final int RACE_LUCK = 21;

    private static final int MOST_TESTS = 12;
    private static final int FEWEST_TESTS = 3;
    private static final int FORM_PACES = 11;
    private static final int FORM_PACE_GAP = 4;
    private static final int FATIGUE_PACES = 13;
    private static final int FITS = FORM_PACES * FATIGUE_PACES;
    private static final int FORM_PACE = 20;
    private static final int FATIGUE_PACE = 3;
    private static final int BEST_FIT = -1;

    private static final int MOST_TAPERED = 6;
    private static final int TAPER_CHOICES = 3;

    private final Book book;
    private final Script script;
    private final ArrayList<Athlete> athletes;
    private final char[] draft;
    private final Trace thought;
    private final Tapering tapering;
    private int lanes;
    private int today;
    private int z;
    private int error;
    private int standard;

    public Taperhall() {
        book = new Book();
        script = new Script();
        athletes = new ArrayList<Athlete>();
        draft = new char[DAYS];
        thought = new Trace();
        tapering = new Tapering();
        lanes = MOST_LANES;
        z = 1;
    }

    // Sessions and the units of their load.

    public char session() throws IllegalStateException {
        if (book.size() >= MOST_SESSIONS) {
            throw new IllegalStateException();
        }
        return book.open();
    }

    public int set(char session, int zone, int minutes, int rest)
            throws IllegalArgumentException, UnsupportedOperationException, IllegalStateException {
        Session one = knownSession(session);
        needRange(zone, 1, HARDEST);
        needRange(minutes, 1, MOST_MINUTES);
        needRange(rest, 0, MOST_REST);
        if (isStillPlanned(session)) {
            throw new UnsupportedOperationException();
        }
        if (one.sets >= MOST_SETS) {
            throw new IllegalStateException();
        }
        return one.addSet(zone, minutes, rest);
    }

    public int load(char session, char unit) throws IllegalArgumentException {
        Session one = knownSession(session);
        needUnit(unit);
        return one.sumIn(unit);
    }

    public long turn(int value, char from, char to) throws IllegalArgumentException, ArithmeticException {
        needUnit(from);
        needUnit(to);
        needRange(value, 0, MOST_TURNED);
        long divisor = book.sumIn(from);
        if (divisor == 0) {
            throw new ArithmeticException();
        }
        return value * book.sumIn(to) / divisor;
    }

    // The typed plan.

    public int type(char character) throws IllegalArgumentException, IllegalStateException {
        if (!isTypable(character)) {
            throw new IllegalArgumentException();
        }
        if (script.length >= MOST_TYPED) {
            throw new IllegalStateException();
        }
        return script.append(character);
    }

    public int wipe() {
        return script.clear();
    }

    public int fault() {
        return script.faultPlace(book.size());
    }

    public int unfolds() throws IllegalStateException {
        if (script.faultPlace(book.size()) != NO_FAULT) {
            throw new IllegalStateException();
        }
        return script.unfold();
    }

    // Athletes and what is planned for them.

    public int athlete(int squad, int priority, int base, int formPace, int fatiguePace)
            throws IllegalArgumentException, IllegalStateException {
        needRange(squad, 0, 3);
        needRange(priority, 0, 9);
        needRange(base, 0, 9999);
        needRange(formPace, 20, 60);
        needRange(fatiguePace, 3, 15);
        if (athletes.size() >= MOST_ATHLETES) {
            throw new IllegalStateException();
        }
        int number = athletes.size();
        athletes.add(new Athlete(number, squad, priority, new Body(base, formPace, fatiguePace)));
        return number;
    }

    public int answers(int athlete, int gain, int cost, int tolerance)
            throws IndexOutOfBoundsException, IllegalArgumentException {
        Athlete one = known(athlete);
        needRange(gain, 1, 9);
        needRange(cost, 1, 9);
        needRange(tolerance, 20, 200);
        int before = one.body.tolerance;
        one.body.tolerance = tolerance;
        one.body.trace.reply(gain, cost);
        one.fits.fresh = false;
        return before;
    }

    public int setCeiling(int athlete, int ceiling)
            throws IndexOutOfBoundsException, IllegalArgumentException, UnsupportedOperationException {
        Athlete one = known(athlete);
        needRange(ceiling, 100, 9999);
        if (busiestWeek(one) > ceiling) {
            throw new UnsupportedOperationException();
        }
        int before = one.ceiling;
        one.ceiling = ceiling;
        return before;
    }

    public int plan(int athlete, int day)
            throws IndexOutOfBoundsException, IllegalArgumentException, UnsupportedOperationException {
        Athlete one = known(athlete);
        needRange(day, today, LAST_DAY);
        if (script.faultPlace(book.size()) != NO_FAULT) {
            throw new UnsupportedOperationException();
        }
        int days = script.unfold();
        if (day + days > DAYS) {
            throw new UnsupportedOperationException();
        }
        one.diary.copyInto(draft);
        script.writeInto(draft, day);
        adoptDraft(one);
        one.log.keep('a', day);
        return days;
    }

    public int shift(int athlete, int day, int by)
            throws IndexOutOfBoundsException, IllegalArgumentException, UnsupportedOperationException {
        Athlete one = known(athlete);
        needRange(day, today, LAST_DAY);
        needRange(by, 1, MOST_SHIFTED);
        if (one.diary.countFrom(Math.max(day, DAYS - by)) > 0) {
            throw new UnsupportedOperationException();
        }
        one.diary.shiftInto(draft, day, by);
        int sessions = one.diary.countFrom(day);
        adoptDraft(one);
        one.log.keep('s', day);
        return sessions;
    }

    public char drop(int athlete, int day)
            throws IndexOutOfBoundsException, IllegalArgumentException, NoSuchElementException {
        Athlete one = known(athlete);
        needRange(day, today, LAST_DAY);
        char letter = one.diary.letterOn(day);
        if (letter == REST) {
            throw new NoSuchElementException();
        }
        one.diary.clearDay(day);
        one.log.keep('d', day);
        return letter;
    }

    public char planned(int athlete, int day) throws IndexOutOfBoundsException, IllegalArgumentException {
        Athlete one = known(athlete);
        needRange(day, 0, LAST_DAY);
        return one.diary.letterOn(day);
    }

    public int felt(int athlete, int day)
            throws IndexOutOfBoundsException, IllegalArgumentException, NoSuchElementException {
        Athlete one = known(athlete);
        needRange(day, 0, LAST_DAY);
        if (day >= today) {
            throw new NoSuchElementException();
        }
        return one.diary.feltOn(day);
    }

    public int peak(int athlete) throws IndexOutOfBoundsException {
        return busiestWeek(known(athlete));
    }

    // Days that go by, and the bodies.

    public int setLanes(int lanes) throws IllegalArgumentException {
        needRange(lanes, 0, MOST_LANES);
        int before = this.lanes;
        this.lanes = lanes;
        return before;
    }

    public int pass(int days) throws IllegalArgumentException, IllegalStateException {
        needRange(days, 1, MOST_PASSED);
        if (today + days > LAST_DAY) {
            throw new IllegalStateException();
        }
        for (int gone = 0; gone < days; gone++) {
            goThroughDay();
        }
        return today;
    }

    public long body(int athlete, char what) throws IndexOutOfBoundsException, IllegalArgumentException {
        Body one = known(athlete).body;
        switch (what) {
            case 'f':
                return one.trace.form;
            case 'g':
                return one.trace.fatigue;
            case 'd':
                return one.damage;
            case 'r':
                return one.readyOn(today);
            case 's':
                return one.step;
            case 'k':
                return one.illDaysFrom(today);
            case 'c':
                return one.campGivesOn(today);
            default:
                throw new IllegalArgumentException();
        }
    }

    public int ill(int athlete, int days) throws IndexOutOfBoundsException, IllegalArgumentException {
        Body one = known(athlete).body;
        needRange(days, 1, 14);
        one.sicken(today, today + days);
        return one.illDaysFrom(today);
    }

    public int comeBack(int athlete, int load)
            throws IndexOutOfBoundsException, IllegalArgumentException, UnsupportedOperationException {
        Body one = known(athlete).body;
        needRange(load, 1, 200);
        if (one.isIllOn(today) || one.step == 0 || one.isBackOn(today)) {
            throw new UnsupportedOperationException();
        }
        return one.tryStep(today, load);
    }

    public int changes(int athlete) throws IndexOutOfBoundsException {
        return known(athlete).log.kept;
    }

    public char cause(int athlete, int index) throws IndexOutOfBoundsException, NoSuchElementException {
        Log log = known(athlete).log;
        needElement(index, log.kept);
        return log.causeAt(index);
    }

    public int changeDay(int athlete, int index) throws IndexOutOfBoundsException, NoSuchElementException {
        Log log = known(athlete).log;
        needElement(index, log.kept);
        return log.dayAt(index);
    }

    public int camp(int athlete, int days) throws IndexOutOfBoundsException, IllegalArgumentException {
        Body one = known(athlete).body;
        needRange(days, 1, 21);
        return one.goToCamp(today, days);
    }

    // Tests and the fits that they bear.

    public int setError(int error) throws IllegalArgumentException {
        needRange(error, 0, 99);
        int before = this.error;
        this.error = error;
        return before;
    }

    public int test(int athlete) throws IndexOutOfBoundsException, IllegalStateException {
        Athlete one = known(athlete);
        if (one.fits.tests >= MOST_TESTS) {
            throw new IllegalStateException();
        }
        int told = one.body.readyOn(today) + restOfDraw(2 * error + 1) - error;
        one.fits.keep(today, told);
        return told;
    }

    public int rivals(int athlete) throws IndexOutOfBoundsException, UnsupportedOperationException {
        return fitted(known(athlete)).countRivals();
    }

    public long fit(int athlete, int rival, char what) throws IndexOutOfBoundsException, IllegalArgumentException,
            UnsupportedOperationException, NoSuchElementException {
        Athlete one = known(athlete);
        if (what != 'f' && what != 'g' && what != 'b' && what != 'e') {
            throw new IllegalArgumentException();
        }
        Fits fits = fitted(one);
        int index = knownFit(fits, rival);
        switch (what) {
            case 'f':
                return formPaceOf(index);
            case 'g':
                return fatiguePaceOf(index);
            case 'b':
                return fits.baseOf(index);
            default:
                return fits.faultOf(index);
        }
    }

    public long forecast(int athlete, int rival, int day) throws IndexOutOfBoundsException, IllegalArgumentException,
            UnsupportedOperationException, NoSuchElementException {
        Athlete one = known(athlete);
        needRange(day, today, LAST_DAY);
        Fits fits = fitted(one);
        int index = knownFit(fits, rival);
        thought.begin(formPaceOf(index), fatiguePaceOf(index), one.body.trace);
        for (int gone = 0; gone < today; gone++) {
            thought.live(one.diary.feltOn(gone));
        }
        livePlanned(one.diary, today, day);
        return fits.baseOf(index) + thought.level();
    }

    // Races and who is chosen for them.

    public int setStandard(int standard) throws IllegalArgumentException {
        needRange(standard, -9999, 99999);
        int before = this.standard;
        this.standard = standard;
        return before;
    }

    public int race(int athlete) throws IndexOutOfBoundsException, UnsupportedOperationException {
        Athlete one = known(athlete);
        if (!one.body.isFitOn(today)) {
            throw new UnsupportedOperationException();
        }
        int result = one.body.readyOn(today) - restOfDraw(RACE_LUCK);
        one.keepResult(result, result >= standard);
        return result;
    }

    public boolean isQualified(int athlete) throws IndexOutOfBoundsException {
        return known(athlete).qualified;
    }

    public int best(int athlete) throws IndexOutOfBoundsException, NoSuchElementException {
        Athlete one = known(athlete);
        if (!one.raced) {
            throw new NoSuchElementException();
        }
        return one.best;
    }

    public int selected(int places, int index) throws IllegalArgumentException, NoSuchElementException {
        needRange(places, 1, 8);
        needElement(index, places);
        int chosen = qualifiedAt(index);
        if (chosen < 0) {
            throw new NoSuchElementException();
        }
        return chosen;
    }

    // Tapers.

    public long taper(int athlete, int day, int days) throws IndexOutOfBoundsException, IllegalArgumentException {
        Athlete one = known(athlete);
        needTaper(day, days);
        searchTaper(one, day, days);
        return (long) one.body.base + one.body.campGivesOn(day) + tapering.bestLevel;
    }

    public char taperAt(int athlete, int day, int days, int index)
            throws IndexOutOfBoundsException, IllegalArgumentException, NoSuchElementException {
        Athlete one = known(athlete);
        needTaper(day, days);
        needElement(index, days);
        searchTaper(one, day, days);
        return tapering.bestChoice(index);
    }

    // The hall as a whole.

    public int seed(int z) throws IllegalArgumentException {
        needRange(z, 1, MODULUS - 1);
        int before = this.z;
        this.z = z;
        return before;
    }

    public int today() {
        return today;
    }

    public long checksum() {
        long sum = 7;
        for (int number = 0; number < athletes.size(); number++) {
            Athlete one = athletes.get(number);
            sum = 31 * sum + one.body.trace.form;
            sum = 31 * sum + one.body.trace.fatigue;
            sum = 31 * sum + one.body.damage;
            sum = 31 * sum + one.body.step;
            sum = 31 * sum + one.log.kept;
            sum = 31 * sum + one.fits.tests;
        }
        sum = 31 * sum + today;
        return 31 * sum + z;
    }

    public float fitShare() throws ArithmeticException {
        if (athletes.isEmpty()) {
            throw new ArithmeticException();
        }
        int count = 0;
        for (int number = 0; number < athletes.size(); number++) {
            if (athletes.get(number).body.isFitOn(today)) {
                count++;
            }
        }
        return (float) count / (float) athletes.size();
    }

    public double meanFelt() throws ArithmeticException {
        if (athletes.isEmpty() || today == 0) {
            throw new ArithmeticException();
        }
        long sum = 0;
        for (int number = 0; number < athletes.size(); number++) {
            sum += athletes.get(number).diary.sumFelt(today);
        }
        return (double) sum / (double) (athletes.size() * today);
    }

    public boolean isSound() {
        for (int number = 0; number < athletes.size(); number++) {
            Athlete one = athletes.get(number);
            Body body = one.body;
            if (busiestWeek(one) > one.ceiling || body.damage < 0 || body.step < 0 || body.step > STEPS) {
                return false;
            }
            if (one.qualified && !one.raced) {
                return false;
            }
        }
        return true;
    }

    // What the methods of the face ask for before they change anything.

    private Athlete known(int number) {
        if (number < 0 || number >= athletes.size()) {
            throw new IndexOutOfBoundsException();
        }
        return athletes.get(number);
    }

    private Session knownSession(char letter) {
        Session one = book.find(letter);
        if (one == null) {
            throw new IllegalArgumentException();
        }
        return one;
    }

    private static int knownFit(Fits fits, int rival) {
        int index = fits.indexOf(rival);
        if (index < 0) {
            throw new NoSuchElementException();
        }
        return index;
    }

    private static void needRange(int number, int least, int most) {
        if (number < least || number > most) {
            throw new IllegalArgumentException();
        }
    }

    private static void needUnit(char unit) {
        if (unit != 'm' && unit != 'r' && unit != 't') {
            throw new IllegalArgumentException();
        }
    }

    /** An index below 0 names nothing, as one that is too large: "from 0" gives it no range of its own. */
    private static void needElement(int index, int size) {
        if (index < 0 || index >= size) {
            throw new NoSuchElementException();
        }
    }

    private void needTaper(int day, int days) {
        needRange(day, 0, LAST_DAY);
        needRange(days, 1, MOST_TAPERED);
        needRange(day - days, today, LAST_DAY);
    }

    private static boolean isTypable(char sign) {
        return isSmallLetter(sign) || isCount(sign) || sign == REST || sign == '(' || sign == ')';
    }

    private static boolean isSmallLetter(char sign) {
        return sign >= 'a' && sign <= 'z';
    }

    private static boolean isCount(char sign) {
        return sign >= '2' && sign <= '9';
    }

    // Plans and their ceiling.

    private boolean isStillPlanned(char letter) {
        for (int number = 0; number < athletes.size(); number++) {
            if (athletes.get(number).diary.holdsFrom(today, letter)) {
                return true;
            }
        }
        return false;
    }

    private int busiestWeek(Athlete one) {
        return one.diary.busiestWeek(one.diary.letters, book, today);
    }

    private void adoptDraft(Athlete one) {
        if (one.diary.busiestWeek(draft, book, today) > one.ceiling) {
            throw new UnsupportedOperationException();
        }
        one.diary.copyFrom(draft);
    }

    // How a day goes by.

    private void goThroughDay() {
        for (int number = 0; number < athletes.size(); number++) {
            train(athletes.get(number));
        }
        for (int number = 0; number < athletes.size(); number++) {
            recover(athletes.get(number));
        }
        for (int number = 0; number < athletes.size(); number++) {
            mayCatch(athletes.get(number));
        }
        today++;
    }

    private void train(Athlete one) {
        char letter = one.diary.letterOn(today);
        int done = 0;
        if (letter != REST) {
            if (!one.body.canTrainOn(today)) {
                one.log.keep('i', today);
            } else if (wantsLane(one) && countAheadOf(one) >= lanes) {
                done = book.feltOf(letter) / 2;
                one.log.keep('h', today);
            } else {
                done = book.feltOf(letter);
            }
        }
        one.diary.write(today, done, one.body.isBackOn(today) ? one.body.backLoad : done);
    }

    private int countAheadOf(Athlete one) {
        int ahead = 0;
        for (int number = 0; number < athletes.size(); number++) {
            Athlete other = athletes.get(number);
            if (wantsLane(other) && goesAhead(other, one)) {
                ahead++;
            }
        }
        return ahead;
    }

    private boolean wantsLane(Athlete one) {
        return one.body.canTrainOn(today) && book.isHard(one.diary.letterOn(today));
    }

    private static boolean goesAhead(Athlete other, Athlete one) {
        if (other.priority == one.priority) {
            return other.number < one.number;
        }
        return other.priority > one.priority;
    }

    private void recover(Athlete one) {
        boolean breaks = one.body.live(one.diary.feltOn(today));
        if (breaks) {
            one.log.keep('x', today);
        }
    }

    private void mayCatch(Athlete one) {
        if (one.body.isIllOn(today) || !isSquadIll(one.squad)) {
            return;
        }
        if (restOfDraw(CATCHING) == 0) {
            one.body.sicken(today + 1, today + 1 + CAUGHT_DAYS);
            one.log.keep('k', today);
        }
    }

    private boolean isSquadIll(int squad) {
        for (int number = 0; number < athletes.size(); number++) {
            Athlete one = athletes.get(number);
            if (one.squad == squad && one.body.isIllOn(today)) {
                return true;
            }
        }
        return false;
    }

    private int restOfDraw(int divisor) {
        z = (int) ((long) z * FACTOR % MODULUS);
        return divisor < 1 ? 0 : z % divisor;
    }

    // Fits, choices and tapers.

    private static int formPaceOf(int fit) {
        return FORM_PACE + fit / FATIGUE_PACES * FORM_PACE_GAP;
    }

    private static int fatiguePaceOf(int fit) {
        return FATIGUE_PACE + fit % FATIGUE_PACES;
    }

    private static Fits fitted(Athlete one) {
        if (one.fits.tests < FEWEST_TESTS) {
            throw new UnsupportedOperationException();
        }
        one.fits.renew(one.diary, one.body.trace);
        return one.fits;
    }

    private void livePlanned(Diary diary, int from, int until) {
        for (int day = from; day < until; day++) {
            thought.live(book.feltOf(diary.letterOn(day)));
        }
    }

    /** Answers -1 if fewer qualified. */
    private int qualifiedAt(int rank) {
        for (int number = 0; number < athletes.size(); number++) {
            Athlete one = athletes.get(number);
            if (one.qualified && countBetterThan(one) == rank) {
                return number;
            }
        }
        return -1;
    }

    private int countBetterThan(Athlete one) {
        int better = 0;
        for (int number = 0; number < athletes.size(); number++) {
            Athlete other = athletes.get(number);
            if (other.qualified && isBetter(other, one)) {
                better++;
            }
        }
        return better;
    }

    private static boolean isBetter(Athlete other, Athlete one) {
        if (other.best == one.best) {
            return other.number < one.number;
        }
        return other.best > one.best;
    }

    private void searchTaper(Athlete one, int day, int days) {
        int first = day - days;
        thought.copyFrom(one.body.trace);
        livePlanned(one.diary, today, first);
        tapering.begin(thought, days);
        for (int index = 0; index < days; index++) {
            tapering.expect(index, book.feltOf(one.diary.letterOn(first + index)));
        }
        tapering.search();
    }

    /** A session, by what its sets sum up to: nothing asks for a set alone. */
    private static final class Session {
        private int sets;
        private int byZone;
        private int lessRest;
        private int weighted;
        private boolean hard;

        private int addSet(int zone, int minutes, int rest) {
            int load = minutes * zone;
            byZone += load;
            lessRest += Math.max(0, load - rest);
            weighted += zone >= 1 && zone <= WEIGHTS.length ? minutes * WEIGHTS[zone - 1] : 0;
            hard = hard || zone == HARDEST;
            sets++;
            return sets;
        }

        private int sumIn(char unit) {
            if (unit == 'm') {
                return byZone;
            }
            return unit == 'r' ? lessRest : weighted;
        }
    }

    /** All sessions by their letters. */
    private static final class Book {
        private final ArrayList<Session> sessions = new ArrayList<Session>();

        private int size() {
            return sessions.size();
        }

        private char open() {
            char letter = (char) ('a' + sessions.size());
            sessions.add(new Session());
            return letter;
        }

        private Session find(char letter) {
            int index = letter - 'a';
            return index >= 0 && index < sessions.size() ? sessions.get(index) : null;
        }

        private long sumIn(char unit) {
            long sum = 0;
            for (int index = 0; index < sessions.size(); index++) {
                sum += sessions.get(index).sumIn(unit);
            }
            return sum;
        }

        private int feltOf(char letter) {
            Session one = find(letter);
            return one == null ? 0 : one.weighted / 4;
        }

        private boolean isHard(char letter) {
            Session one = find(letter);
            return one != null && one.hard;
        }
    }

    /** The typed plan, and the days that it unfolds to. */
    private static final class Script {
        private final char[] typed = new char[MOST_TYPED];
        private final char[] days = new char[MOST_UNFOLDED];
        private final int[] starts = new int[DEEPEST + 1];
        private final int[] times = new int[DEEPEST + 1];
        private int length;
        private int unfolded;

        private int append(char sign) {
            if (length >= 0 && length < typed.length) {
                typed[length] = sign;
                length++;
            }
            return length;
        }

        private int clear() {
            int before = length;
            length = 0;
            return before;
        }

        private int faultPlace(int sessions) {
            int place = misfit(sessions);
            if (place == NO_FAULT && unfold() > MOST_UNFOLDED) {
                return length;
            }
            return place;
        }

        /** A plan is open to its next sign in three ways only: how deep, behind a count, and with something in it. */
        private int misfit(int sessions) {
            int depth = 0;
            boolean counted = false;
            boolean filled = false;
            for (int place = 0; place < length && place < typed.length; place++) {
                char sign = typed[place];
                if (counted) {
                    if (sign != '(' || depth >= DEEPEST) {
                        return place;
                    }
                    depth++;
                    counted = false;
                    filled = false;
                } else if (sign == ')') {
                    if (depth == 0 || !filled) {
                        return place;
                    }
                    depth--;
                } else if (isCount(sign)) {
                    counted = true;
                } else if (sign == REST || isSmallLetter(sign) && sign - 'a' < sessions) {
                    filled = true;
                } else {
                    return place;
                }
            }
            return counted || depth > 0 || !filled ? length : NO_FAULT;
        }

        /** Answers one day more than there may be for all plans that are too long: their days do not matter. */
        private int unfold() {
            int depth = 0;
            int count = 1;
            unfolded = 0;
            for (int place = 0; place < length && place < typed.length; place++) {
                char sign = typed[place];
                if (isCount(sign)) {
                    count = sign - '0';
                } else if (sign == '(') {
                    depth++;
                    open(depth, count);
                } else if (sign == ')') {
                    close(depth);
                    depth--;
                } else {
                    addDay(sign);
                }
            }
            return unfolded;
        }

        private void open(int depth, int count) {
            if (depth >= 0 && depth < starts.length && depth < times.length) {
                starts[depth] = unfolded;
                times[depth] = count;
            }
        }

        private void close(int depth) {
            if (depth >= 0 && depth < starts.length && depth < times.length) {
                repeat(starts[depth], times[depth]);
            }
        }

        private void repeat(int start, int count) {
            int end = unfolded;
            for (int again = 1; again < count; again++) {
                for (int index = Math.max(0, start); index < end && index < days.length; index++) {
                    addDay(days[index]);
                }
            }
        }

        private void addDay(char sign) {
            if (unfolded >= 0 && unfolded < days.length) {
                days[unfolded] = sign;
            }
            unfolded = Math.min(unfolded + 1, MOST_UNFOLDED + 1);
        }

        private void writeInto(char[] row, int from) {
            for (int index = 0; index < unfolded && index < days.length; index++) {
                int day = from + index;
                if (day >= 0 && day < row.length) {
                    row[day] = days[index];
                }
            }
        }
    }

    /** Form and fatigue on their way, of a body or in thought. */
    private static final class Trace {
        private int formPace;
        private int fatiguePace;
        private int gain = 1;
        private int cost = 1;
        private int form;
        private int fatigue;

        private void begin(int formPace, int fatiguePace, Trace like) {
            this.formPace = formPace;
            this.fatiguePace = fatiguePace;
            gain = like.gain;
            cost = like.cost;
            form = 0;
            fatigue = 0;
        }

        private void reply(int gain, int cost) {
            this.gain = gain;
            this.cost = cost;
        }

        private void copyFrom(Trace other) {
            begin(other.formPace, other.fatiguePace, other);
            form = other.form;
            fatigue = other.fatigue;
        }

        private void live(int load) {
            form = faded(form + gain * load, formPace);
            fatigue = faded(fatigue + cost * load, fatiguePace);
        }

        private static int faded(int value, int pace) {
            return pace < 1 ? value : value - value / pace;
        }

        private int level() {
            return form - fatigue;
        }
    }

    /** What load, injuries, illness and camps make of one. */
    private static final class Body {
        private final int base;
        private final Trace trace;
        private int tolerance = 200;
        private int damage;
        private int step;
        private int illFrom;
        private int illUntil;
        private int backDay = -1;
        private int backLoad;
        private int campLast;
        private int campDays;

        private Body(int base, int formPace, int fatiguePace) {
            this.base = base;
            trace = new Trace();
            trace.formPace = formPace;
            trace.fatiguePace = fatiguePace;
        }

        /** Answers whether an injury begins. */
        private boolean live(int load) {
            trace.live(load);
            damage += Math.max(0, load - tolerance);
            damage -= damage / 8;
            boolean breaks = damage > TENDON && step == 0;
            if (breaks) {
                step = 1;
            }
            return breaks;
        }

        private boolean isIllOn(int day) {
            return day >= illFrom && day < illUntil;
        }

        private int illDaysFrom(int day) {
            return Math.max(0, illUntil - day);
        }

        private void sicken(int from, int until) {
            illFrom = from;
            illUntil = Math.max(illUntil, until);
        }

        private boolean isFitOn(int day) {
            return !isIllOn(day) && step == 0;
        }

        private boolean isBackOn(int day) {
            return backDay == day;
        }

        private boolean canTrainOn(int day) {
            return step == 0 && backDay != day && !isIllOn(day);
        }

        private int tryStep(int day, int load) {
            backDay = day;
            backLoad = load;
            int most = STEP_LOAD * step;
            if (load < most - STEP_SLACK || load > most) {
                step = Math.max(1, step - 1);
            } else if (step < STEPS) {
                step++;
            } else {
                step = 0;
                damage = 0;
            }
            return step;
        }

        private int goToCamp(int first, int days) {
            campDays = days;
            campLast = first + days - 1;
            return campLast;
        }

        private int campGivesOn(int day) {
            int behind = day - campLast;
            if (behind >= 1 && behind <= 3) {
                return -campDays;
            }
            return behind >= 10 && behind <= 24 ? 2 * campDays : 0;
        }

        private int readyOn(int day) {
            return base + trace.level() + campGivesOn(day);
        }
    }

    /** What is planned for each day, and what was felt on it: in all, and of its session alone. */
    private static final class Diary {
        private final char[] letters = new char[DAYS];
        private final int[] feltInAll = new int[DAYS];
        private final int[] feltOfSession = new int[DAYS];

        private Diary() {
            for (int day = 0; day < letters.length; day++) {
                letters[day] = REST;
            }
        }

        private char letterOn(int day) {
            return day >= 0 && day < letters.length ? letters[day] : REST;
        }

        private int feltOn(int day) {
            return day >= 0 && day < feltInAll.length ? feltInAll[day] : 0;
        }

        private void write(int day, int ofSession, int inAll) {
            if (day >= 0 && day < feltOfSession.length && day < feltInAll.length) {
                feltOfSession[day] = ofSession;
                feltInAll[day] = inAll;
            }
        }

        private void clearDay(int day) {
            if (day >= 0 && day < letters.length) {
                letters[day] = REST;
            }
        }

        private void copyInto(char[] row) {
            for (int day = 0; day < letters.length && day < row.length; day++) {
                row[day] = letters[day];
            }
        }

        private void copyFrom(char[] row) {
            for (int day = 0; day < letters.length && day < row.length; day++) {
                letters[day] = row[day];
            }
        }

        private void shiftInto(char[] row, int from, int by) {
            copyInto(row);
            for (int day = Math.max(0, from); day < row.length; day++) {
                row[day] = day - by < from ? REST : letterOn(day - by);
            }
        }

        private int countFrom(int from) {
            int count = 0;
            for (int day = Math.max(0, from); day < letters.length; day++) {
                if (letters[day] != REST) {
                    count++;
                }
            }
            return count;
        }

        private boolean holdsFrom(int from, char letter) {
            for (int day = Math.max(0, from); day < letters.length; day++) {
                if (letters[day] == letter) {
                    return true;
                }
            }
            return false;
        }

        private long sumFelt(int until) {
            long sum = 0;
            for (int day = 0; day < until; day++) {
                sum += feltOn(day);
            }
            return sum;
        }

        /** The greatest load of a week if the letters were those of the row. */
        private int busiestWeek(char[] row, Book book, int today) {
            int sum = 0;
            int most = 0;
            for (int day = 0; day < row.length; day++) {
                sum += loadOn(row, day, book, today) - loadOn(row, day - WEEK, book, today);
                most = Math.max(most, sum);
            }
            return most;
        }

        private int loadOn(char[] row, int day, Book book, int today) {
            if (day < 0 || day >= row.length || day >= feltOfSession.length) {
                return 0;
            }
            return day < today ? feltOfSession[day] : book.feltOf(row[day]);
        }
    }

    /** The first changes of an athlete. */
    private static final class Log {
        private final char[] causes = new char[MOST_CHANGES];
        private final int[] days = new int[MOST_CHANGES];
        private int kept;

        private void keep(char cause, int day) {
            if (kept >= 0 && kept < causes.length && kept < days.length) {
                causes[kept] = cause;
                days[kept] = day;
                kept++;
            }
        }

        private char causeAt(int index) {
            return index >= 0 && index < causes.length ? causes[index] : REST;
        }

        private int dayAt(int index) {
            return index >= 0 && index < days.length ? days[index] : 0;
        }
    }

    /**
     * The tests of an athlete, and all fits to them in the order of their paces.
     *
     * What is felt behind the last test does not matter to a fit, so that the fits stay fresh until another test, or
     * until the athlete answers to load otherwise.
     */
    private static final class Fits {
        private final int[] days = new int[MOST_TESTS];
        private final int[] told = new int[MOST_TESTS];
        private final int[] left = new int[MOST_TESTS];
        private final long[] bases = new long[FITS];
        private final long[] faults = new long[FITS];
        private final Trace thought = new Trace();
        private int tests;
        private int best;
        private boolean fresh;

        private void keep(int day, int tells) {
            if (tests >= 0 && tests < days.length && tests < told.length) {
                days[tests] = day;
                told[tests] = tells;
                tests++;
                fresh = false;
            }
        }

        private void renew(Diary diary, Trace like) {
            if (fresh) {
                return;
            }
            best = 0;
            for (int index = 0; index < FITS; index++) {
                thought.begin(formPaceOf(index), fatiguePaceOf(index), like);
                compare(diary);
                judge(index);
                if (faultOf(index) < faultOf(best)) {
                    best = index;
                }
            }
            fresh = true;
        }

        /** Leaves behind what the thought does not tell of each test. */
        private void compare(Diary diary) {
            int next = 0;
            for (int day = 0; day < DAYS; day++) {
                while (next < tests && isTestOf(next, day)) {
                    leave(next, thought.level());
                    next++;
                }
                if (next >= tests) {
                    return;
                }
                thought.live(diary.feltOn(day));
            }
        }

        private boolean isTestOf(int test, int day) {
            return test >= 0 && test < days.length && days[test] == day;
        }

        private void leave(int test, int level) {
            if (test >= 0 && test < told.length && test < left.length) {
                left[test] = told[test] - level;
            }
        }

        private void judge(int index) {
            long sum = 0;
            for (int test = 0; test < tests && test < left.length; test++) {
                sum += left[test];
            }
            long base = tests < 1 ? 0 : sum / tests;
            long fault = 0;
            for (int test = 0; test < tests && test < left.length; test++) {
                fault += (left[test] - base) * (left[test] - base);
            }
            if (index >= 0 && index < bases.length && index < faults.length) {
                bases[index] = base;
                faults[index] = fault;
            }
        }

        private long baseOf(int index) {
            return index >= 0 && index < bases.length ? bases[index] : 0;
        }

        private long faultOf(int index) {
            return index >= 0 && index < faults.length ? faults[index] : 0;
        }

        private boolean isRival(int index) {
            return faultOf(index) <= 2 * faultOf(best);
        }

        private int countRivals() {
            int count = 0;
            for (int index = 0; index < FITS; index++) {
                if (isRival(index)) {
                    count++;
                }
            }
            return count;
        }

        /** Answers -1 if there is no such rival. */
        private int indexOf(int rival) {
            if (rival == BEST_FIT) {
                return best;
            }
            int ahead = 0;
            for (int index = 0; index < FITS; index++) {
                if (isRival(index)) {
                    if (ahead == rival) {
                        return index;
                    }
                    ahead++;
                }
            }
            return -1;
        }
    }

    /** An athlete, with all that is kept of one. */
    private static final class Athlete {
        private final int number;
        private final int squad;
        private final int priority;
        private final Body body;
        private final Diary diary = new Diary();
        private final Log log = new Log();
        private final Fits fits = new Fits();
        private int ceiling = 9999;
        private boolean raced;
        private boolean qualified;
        private int best;

        private Athlete(int number, int squad, int priority, Body body) {
            this.number = number;
            this.squad = squad;
            this.priority = priority;
            this.body = body;
        }

        private void keepResult(int result, boolean qualifies) {
            best = raced ? Math.max(best, result) : result;
            raced = true;
            qualified = qualified || qualifies;
        }
    }

    /**
     * The search for the best taper.
     *
     * A taper is a number to the base 3 whose first digit stands for the first day, 0 for 'f', 1 for 'h' and 2 for
     * 'n': the first of the best numbers is then the one with f ahead of h ahead of n, day by day.
     */
    private static final class Tapering {
        private final int[] loads = new int[MOST_TAPERED];
        private final Trace start = new Trace();
        private final Trace trial = new Trace();
        private int days;
        private int bestNumber;
        private int bestLevel;

        private void begin(Trace from, int days) {
            start.copyFrom(from);
            this.days = days;
        }

        private void expect(int index, int load) {
            if (index >= 0 && index < loads.length) {
                loads[index] = load;
            }
        }

        private void search() {
            int numbers = 1;
            for (int index = 0; index < days && index < loads.length; index++) {
                numbers *= TAPER_CHOICES;
            }
            for (int number = 0; number < numbers; number++) {
                int level = levelBy(number);
                if (number == 0 || level > bestLevel) {
                    bestNumber = number;
                    bestLevel = level;
                }
            }
        }

        private int levelBy(int number) {
            trial.copyFrom(start);
            for (int index = 0; index < days && index < loads.length; index++) {
                int digit = digitOf(number, index);
                trial.live(digit == 0 ? loads[index] : digit == 1 ? loads[index] / 2 : 0);
            }
            return trial.level();
        }

        private int digitOf(int number, int index) {
            int rest = number;
            for (int behind = days - 1; behind > index; behind--) {
                rest = rest / TAPER_CHOICES;
            }
            return rest % TAPER_CHOICES;
        }

        private char bestChoice(int index) {
            int digit = digitOf(bestNumber, index);
            return digit == 0 ? 'f' : digit == 1 ? 'h' : 'n';
        }
    }
}
