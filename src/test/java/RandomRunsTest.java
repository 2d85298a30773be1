import java.lang.reflect.InvocationTargetException;
import java.lang.reflect.Method;
import java.util.ArrayList;
import java.util.Arrays;
import java.util.Comparator;
import java.util.HashMap;
import java.util.HashSet;
import java.util.List;
import java.util.Map;
import java.util.Random;
import java.util.Set;

/**
 * Long runs of calls by fixed seeds, each answer held against the mirror's: ordinary arguments most of the time, edges
 * and wrong ones at times. Behind a call that throws, and now and then, all that the hall tells is read.
 */
public final class RandomRunsTest {
    private static final int RUNS = 300;
    private static final int CALLS = 512;
    private static final String[] PLANS = {"a", "b.", "2(ab.)", "9(a)", "3(2(ab).c)", "5(.)", "abcdef", "2(2(2(c).).)",
        "6(9(a))", "4(a..b)", "j", "2(a", "aa)", "9(7(b))", ".c.c", "5(b.)a"};

    private final Check check = new Check("RandomRunsTest");
    private final Map<String, Method> mirrored = new HashMap<>();
    private final List<Method> face = new ArrayList<>();
    private final Map<String, Integer> answered = new HashMap<>();
    private final Map<String, Integer> thrown = new HashMap<>();
    private final Set<String> seen = new HashSet<>();

    private RandomRunsTest() {
        for (Method method : Mirror.class.getDeclaredMethods()) {
            method.setAccessible(true);
            if (!java.lang.reflect.Modifier.isPrivate(method.getModifiers())) {
                mirrored.put(method.getName(), method);
            }
        }
        for (Method method : Taperhall.class.getDeclaredMethods()) {
            if (java.lang.reflect.Modifier.isPublic(method.getModifiers())) {
                face.add(method);
            }
        }
        face.sort(Comparator.comparing(Method::getName));
    }

    public static void main(String[] args) {
        RandomRunsTest test = new RandomRunsTest();
        for (int run = 0; run < RUNS; run++) {
            test.run(run);
        }
        test.looksAtAll();
        test.looksFarEnough();
        test.check.end();
    }

    private void run(int run) {
        Random random = new Random(run);
        Taperhall hall = new Taperhall();
        Mirror mirror = new Mirror();
        // A run has a taste of its own, so that some runs stay early and others come to the last days.
        int passes = 2 + random.nextInt(12);
        int athletes = random.nextInt(9);
        for (int call = 0; call < CALLS; call++) {
            String name = pick(random, passes, athletes, call);
            if (name.equals("plan") && random.nextInt(3) > 0) {
                call += typeAPlan(random, hall, mirror);
            }
            Method method = method(name);
            Object[] arguments = arguments(random, method, hall, run);
            String before = hall.checksum() + " " + hall.fault();
            String got = answer(method, hall, arguments);
            String due = answer(mirrored.get(name), mirror, arguments);
            String what = "run " + run + " call " + call + " " + name + Arrays.toString(printed(arguments));
            check.sameText(what, got, due);
            if (got.startsWith("throws")) {
                check.sameText(what + " changes nothing", hall.checksum() + " " + hall.fault(), before);
            }
            (got.startsWith("throws") ? thrown : answered).merge(name, 1, Integer::sum);
            seen.add(name + " " + got);
        }
        readAll(run, hall, mirror);
    }

    /** Each method has answered, and each that may throw has thrown: else the runs look at less than they seem to. */
    private void looksAtAll() {
        for (Method method : face) {
            check.holds(method.getName() + " has answered", answered.getOrDefault(method.getName(), 0) > 50);
            if (method.getExceptionTypes().length > 0) {
                check.holds(method.getName() + " has thrown", thrown.getOrDefault(method.getName(), 0) > 5);
            }
        }
    }

    private void looksFarEnough() {
        for (char cause : "asdhixk".toCharArray()) {
            check.holds("a change by " + cause, seen.contains("cause " + cause));
        }
        for (int step = 0; step <= 4; step++) {
            check.holds("a coming back to the step " + step, seen.contains("comeBack " + step));
        }
        for (char choice : "fhn".toCharArray()) {
            check.holds("a taper with " + choice, seen.contains("taperAt " + choice));
        }
        check.holds("the last day", seen.contains("today 239"));
        check.holds("more rivals than one", seen.contains("rivals 2") && seen.contains("rivals 9"));
    }

    private void readAll(int run, Taperhall hall, Mirror mirror) {
        for (int athlete = 0; athlete < 8; athlete++) {
            for (int day = 0; day < 240; day++) {
                for (String name : new String[] {"planned", "felt"}) {
                    Object[] arguments = {athlete, day};
                    check.sameText("run " + run + " at last " + name + " " + athlete + " " + day,
                        answer(method(name), hall, arguments), answer(mirrored.get(name), mirror, arguments));
                }
            }
            for (int index = 0; index < 41; index++) {
                for (String name : new String[] {"cause", "changeDay"}) {
                    Object[] arguments = {athlete, index};
                    check.sameText("run " + run + " at last " + name + " " + athlete + " " + index,
                        answer(method(name), hall, arguments), answer(mirrored.get(name), mirror, arguments));
                }
            }
        }
    }

    private Method method(String name) {
        for (Method method : face) {
            if (method.getName().equals(name)) {
                return method;
            }
        }
        throw new IllegalStateException(name);
    }

    private String pick(Random random, int passes, int athletes, int call) {
        if (call < 3 * athletes) {
            return call % 3 == 0 ? "athlete" : call % 3 == 1 ? "session" : "set";
        }
        int toss = random.nextInt(100);
        if (toss < passes) {
            return "pass";
        }
        if (toss < passes + 12) {
            return "plan";
        }
        if (toss < passes + 20) {
            return "comeBack";
        }
        if (toss < passes + 24) {
            return "answers";
        }
        if (toss < passes + 28) {
            return "test";
        }
        return face.get(random.nextInt(face.size())).getName();
    }

    private int typeAPlan(Random random, Taperhall hall, Mirror mirror) {
        String plan = PLANS[random.nextInt(PLANS.length)];
        hall.wipe();
        mirror.wipe();
        for (char sign : plan.toCharArray()) {
            check.same("typed", hall.type(sign), mirror.type(sign));
        }
        return plan.length() + 1;
    }

    private static Object[] printed(Object[] arguments) {
        Object[] texts = arguments.clone();
        for (int index = 0; index < texts.length; index++) {
            texts[index] = texts[index] instanceof Character c ? "'" + (int) c + "'" : texts[index];
        }
        return texts;
    }

    private static String answer(Method method, Object on, Object[] arguments) {
        try {
            return String.valueOf(method.invoke(on, arguments));
        } catch (InvocationTargetException e) {
            String message = on instanceof Taperhall ? e.getCause().getMessage() : null;
            return "throws " + e.getCause().getClass().getName() + (message == null ? "" : " of the machine: " + message);
        } catch (IllegalAccessException e) {
            throw new IllegalStateException(e);
        }
    }

    private static Object[] arguments(Random random, Method method, Taperhall hall, int run) {
        int[][] ranges = ranges(method.getName(), hall.today(), random);
        if (method.getName().equals("pass") && run % 10 == 0) {
            ranges[0][1] = 30;
        }
        Class<?>[] types = method.getParameterTypes();
        Object[] arguments = new Object[types.length];
        int worst = random.nextInt(6) == 0 ? random.nextInt(types.length + 1) : -1;
        for (int index = 0; index < types.length; index++) {
            int least = ranges[index][0];
            int most = Math.max(least, ranges[index][1]);
            int number = index == worst ? edge(random, least, most) : least + random.nextInt(most - least + 1);
            arguments[index] = types[index] == char.class ? (Object) (char) number : (Object) number;
        }
        if (method.getName().equals("comeBack") && random.nextInt(3) > 0) {
            passStep(random, hall, arguments);
        }
        return arguments;
    }

    /** Makes the load one that passes the step, which by luck alone would hardly be done four times. */
    private static void passStep(Random random, Taperhall hall, Object[] arguments) {
        try {
            long step = hall.body((int) arguments[0], 's');
            arguments[1] = (int) Math.max(1, 20 * step - random.nextInt(11));
        } catch (IndexOutOfBoundsException e) {
            arguments[1] = 1;
        }
    }

    private static int edge(Random random, int least, int most) {
        int[] edges = {least, most, least - 1, most + 1, Integer.MIN_VALUE, Integer.MAX_VALUE, -1, 0};
        return edges[random.nextInt(edges.length)];
    }

    private static int[] letter(Random random, String letters) {
        char letter = letters.charAt(random.nextInt(letters.length()));
        return new int[] {letter, letter};
    }

    private static int[][] ranges(String name, int today, Random random) {
        int[] who = {0, random.nextInt(4) == 0 ? 7 : 2};
        int[] near = {today, Math.min(239, today + 12)};
        switch (name) {
            case "set":
                return new int[][] {{'a', 'c'}, {1, 5}, {random.nextInt(2) == 0 ? 1 : 40, 60}, {0, 30}};
            case "load":
                return new int[][] {{'a', 'j'}, letter(random, "mrtq")};
            case "turn":
                return new int[][] {{0, 99999}, letter(random, "mrt"), letter(random, "mrt")};
            case "type":
                return new int[][] {letter(random, "ab.23()()()")};
            case "athlete":
                return new int[][] {{0, 1}, {0, 9}, {0, 900}, {20, 60}, {3, 15}};
            case "answers":
                return new int[][] {who, {1, 9}, {1, 9}, {20, random.nextInt(3) == 0 ? 200 : 40}};
            case "setCeiling":
                return new int[][] {who, {100, 9999}};
            case "plan":
                return new int[][] {who, near};
            case "shift":
                return new int[][] {who, near, {1, 9}};
            case "drop":
                return new int[][] {who, near};
            case "planned":
                return new int[][] {who, {0, 239}};
            case "felt":
                return new int[][] {who, {0, Math.max(1, today)}};
            case "setLanes":
                return new int[][] {{0, random.nextInt(3) == 0 ? 8 : 2}};
            case "pass":
                return new int[][] {{1, random.nextInt(4) == 0 ? 10 : 2}};
            case "body":
                return new int[][] {who, letter(random, "fgdrskcq")};
            case "ill":
                return new int[][] {who, {1, random.nextInt(4) == 0 ? 14 : 4}};
            case "comeBack":
                return new int[][] {who, random.nextInt(3) == 0 ? new int[] {1, 200} : new int[] {10, 80}};
            case "cause":
            case "changeDay":
                return new int[][] {who, {0, 12}};
            case "camp":
                return new int[][] {who, {1, 21}};
            case "setError":
                return new int[][] {{0, 99}};
            case "fit":
                return new int[][] {who, {-1, 5}, letter(random, "fgbeq")};
            case "forecast":
                return new int[][] {who, {-1, 3}, {today, 239}};
            case "setStandard":
                return new int[][] {{-500, 1500}};
            case "selected":
                return new int[][] {{1, 8}, {0, 4}};
            case "taper":
                return new int[][] {who, {today, today + 15}, {1, 6}};
            case "taperAt":
                return new int[][] {who, {today, today + 15}, {1, 6}, {0, 6}};
            case "seed":
                return new int[][] {{1, 2147483646}};
            default:
                return new int[][] {who};
        }
    }
}
