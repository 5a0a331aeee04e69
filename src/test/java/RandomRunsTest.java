import java.lang.reflect.InvocationTargetException;
import java.lang.reflect.Method;
import java.lang.reflect.Modifier;
import java.util.ArrayList;
import java.util.Arrays;
import java.util.List;
import java.util.Map;
import java.util.Random;
import java.util.TreeMap;

/** Runs of 512 calls, always the same ones, on an object and on the model: all answers are the same. */
public final class RandomRunsTest {
    private static final int RUNS = 600;
    private static final int CALLS = 512;
    private static final Map<String, Method> FACE = face(Queueward.class);
    private static final Map<String, Method> MODEL = face(Model.class);
    private static final List<String> NAMES = new ArrayList<>(FACE.keySet());
    private static final List<List<String>> THEMES = List.of(
        List.of("result", "write", "type", "wipe", "signAt", "fault", "read", "undo", "clear", "jobAt"),
        List.of("come", "come", "come", "jobAt", "line", "undo", "clear", "numberAt", "meanTime", "sumTimes", "mean",
            "doneShare", "fits", "envelope", "errors", "read"),
        List.of("states", "chance", "group", "longShare", "reach", "timeTo", "behind", "write", "result", "errors"),
        List.of("lostShare", "serversFor", "write", "result", "signAt"),
        List.of("net", "node", "way", "rate", "isStable", "numbers", "growth", "closed", "write", "result", "errors"),
        List.of("envelope", "server", "server", "bound", "bound", "fits", "come", "clear", "result", "errors"),
        List.of("option", "split", "price", "result", "errors"),
        NAMES);

    private final Random random;
    private final Queueward object = new Queueward();
    private final Model model = new Model();
    private final List<String> told = new ArrayList<>();
    private final Map<String, Integer> outcomes;
    private int calls;
    private int wrong;

    private RandomRunsTest(long seed, Map<String, Integer> outcomes) {
        random = new Random(seed);
        this.outcomes = outcomes;
    }

    public static void main(String[] args) {
        int runs = args.length > 0 ? Integer.parseInt(args[0]) : RUNS;
        long first = args.length > 1 ? Long.parseLong(args[1]) : 1;
        Map<String, Integer> outcomes = new TreeMap<>();
        int wrong = 0;
        for (int run = 0; run < runs && wrong == 0; run++) {
            RandomRunsTest test = new RandomRunsTest(first + run, outcomes);
            test.run(THEMES.get(run % THEMES.size()));
            wrong += test.wrong;
        }
        for (String name : NAMES) {
            if (!outcomes.containsKey(name)) {
                System.out.println("no call of " + name + " ever answered");
                wrong++;
            }
        }
        System.out.println("RandomRunsTest: " + runs + " runs of " + CALLS + " calls, " + wrong + " wrong");
        if (args.length > 2) {
            outcomes.forEach((key, count) -> System.out.println(count + " " + key));
        }
        if (wrong != 0) {
            System.exit(1);
        }
    }

    private static Map<String, Method> face(Class<?> type) {
        Map<String, Method> face = new TreeMap<>();
        for (Method method : type.getDeclaredMethods()) {
            if (Modifier.isPublic(method.getModifiers())) {
                face.put(method.getName(), method);
            }
        }
        return face;
    }

    private void run(List<String> theme) {
        while (calls < CALLS && wrong == 0) {
            if (random.nextInt(12) == 0) {
                doCompound();
            } else if (random.nextInt(60) == 0) {
                callByChance(NAMES.get(random.nextInt(NAMES.size())));
            } else {
                callByChance(theme.get(random.nextInt(theme.size())));
            }
        }
    }

    private void doCompound() {
        switch (random.nextInt(6)) {
            case 5:
                playManyJobs();
                break;
            case 0:
                makeLawfulChain();
                break;
            case 1:
                makeNet();
                break;
            case 2:
                typeComings();
                break;
            case 3:
                makeLightJobs();
                break;
            default:
                call("write");
                call("result", 0);
                call("result", 1);
        }
    }

    /** Sums of the parts that are the base are rare by chance. */
    private void makeLawfulChain() {
        int states = 1 + random.nextInt(7);
        int base = random.nextInt(3) == 0 ? 100 : 1 + random.nextInt(100);
        call("states", states, base);
        for (int from = 0; from < states; from++) {
            int rest = base;
            int most = random.nextInt(4) == 0 ? states : 1 + random.nextInt(2);
            int[] row = new int[states];
            for (int i = 0; i < most; i++) {
                int parts = i == most - 1 ? rest : random.nextInt(rest + 1);
                row[random.nextInt(states)] += parts;
                rest -= parts;
            }
            for (int to = 0; to < states; to++) {
                if (row[to] != (from == to ? base : 0)) {
                    call("chance", from, to, row[to]);
                }
            }
        }
        for (int i = 0; i < 6; i++) {
            callByChance(THEMES.get(2).get(2 + random.nextInt(5)));
            call("result", i % 2);
        }
    }

    /** An open net or a closed one, with comings of the order of what is served. */
    private void makeNet() {
        boolean isClosed = random.nextInt(3) == 0;
        int nodes = 1 + random.nextInt(4);
        call("net", nodes);
        for (int node = 0; node < nodes; node++) {
            int most = random.nextInt(3) == 0 ? 1000 : 20;
            call("node", node, isClosed ? 0 : random.nextInt(most / 2), 1 + random.nextInt(most));
            int rest = isClosed ? 100 : 100 - random.nextInt(60);
            int[] row = new int[nodes];
            int ways = 1 + random.nextInt(nodes);
            for (int i = 0; i < ways; i++) {
                int percent = i == ways - 1 && isClosed ? rest : random.nextInt(rest + 1);
                row[isClosed && i == 0 ? (node + 1) % nodes : random.nextInt(nodes)] += percent;
                rest -= percent;
            }
            for (int to = 0; to < nodes; to++) {
                call("way", node, to, row[to]);
            }
        }
        for (int i = 0; i < 8; i++) {
            String name = isClosed ? "closed" : THEMES.get(4).get(3 + random.nextInt(4));
            callByChance(name);
            if (i % 4 == 0) {
                call("write");
            }
        }
    }

    private void typeComings() {
        String[] words = {"at", " takes ", " kind ", " weighs ", ";", " ", "", "12345", "x", "/", "takes", "A"};
        call("wipe");
        StringBuilder text = new StringBuilder();
        int tick = 0;
        for (int come = random.nextInt(6); come >= 0; come--) {
            tick += random.nextInt(20);
            text.append("at").append(random.nextBoolean() ? " " : "").append(tick).append(" takes");
            text.append(random.nextInt(41));
            text.append(random.nextBoolean() ? " kind " + random.nextInt(3) : "");
            text.append(random.nextBoolean() ? "weighs" + random.nextInt(10) : "");
            text.append(random.nextInt(15) == 0 ? words[random.nextInt(words.length)] : "");
            text.append(random.nextInt(20) == 0 ? "" : ";");
        }
        if (random.nextInt(4) == 0) {
            int place = random.nextInt(text.length());
            text.replace(place, Math.min(place + random.nextInt(3), text.length()),
                words[random.nextInt(words.length)]);
        }
        for (int from = 0; from < text.length(); from += 8) {
            call("type", Check.packed(text.substring(from, Math.min(from + 8, text.length()))));
        }
        call("fault");
        call("read");
    }

    /** Jobs that an envelope may hold. */
    private void makeLightJobs() {
        call("clear");
        int tick = 0;
        for (int job = random.nextInt(10); job >= 0; job--) {
            tick += random.nextInt(8);
            call("come", tick, 1 + random.nextInt(6), random.nextInt(3), 1 + random.nextInt(9));
        }
        call("envelope", random.nextInt(20), random.nextInt(4), 1 + random.nextInt(3));
        call("fits");
        call("errors");
    }

    /** Up to one job too many, in all kinds of lines. */
    private void playManyJobs() {
        call("clear");
        int tick = 0;
        int gap = 1 + random.nextInt(25);
        int longest = 1 + random.nextInt(40);
        for (int job = random.nextInt(26); job >= 0; job--) {
            tick = Math.min(tick + random.nextInt(gap), 500);
            call("come", tick, 1 + random.nextInt(longest), random.nextInt(3), 1 + random.nextInt(9));
        }
        for (int i = 0; i < 4; i++) {
            call("line", 1 + random.nextInt(4), random.nextInt(6), random.nextInt(random.nextBoolean() ? 25 : 4),
                1 + random.nextInt(random.nextBoolean() ? 999 : 50));
            call("sumTimes", 0);
            for (int look = 0; look < 5; look++) {
                call("jobAt", random.nextInt(model.jobCount() + 1), random.nextInt(4));
            }
            call("numberAt", random.nextInt(tick + 20));
            call(random.nextBoolean() ? "mean" : "doneShare");
        }
        call("sumTimes", 1);
        call("errors");
    }

    private void callByChance(String name) {
        Class<?>[] types = FACE.get(name).getParameterTypes();
        long[] numbers = new long[types.length];
        for (int i = 0; i < types.length; i++) {
            numbers[i] = types[i] == boolean.class ? random.nextInt(2) : number(name, i);
        }
        call(name, numbers);
    }

    /** Mostly in range, by a table of least and greatest numbers; sometimes at the edges or far off. */
    private long number(String name, int place) {
        long[] range = rangeOf(name, place);
        switch (random.nextInt(14)) {
            case 0:
                return range[random.nextInt(2)];
            case 1:
                return random.nextInt(4) == 0 ? range[0] - 1 : random.nextInt(4) == 0 ? range[1] + 1 : range[0];
            case 2:
                return random.nextInt(8) == 0 ? (random.nextBoolean() ? random.nextInt() : Integer.MIN_VALUE) : range[1];
            case 3:
            case 4:
            case 5:
                return range[0] + random.nextInt((int) Math.min(range[1] - range[0] + 1, 6));
            default:
                return range[0] + random.nextInt((int) (range[1] - range[0] + 1));
        }
    }

    private long[] rangeOf(String name, int place) {
        int state = model.stateCount() - 1;
        int node = model.nodeCount() - 1;
        long[][] ranges;
        switch (name) {
            case "type":
                return new long[] {32, 126};
            case "signAt":
                return new long[] {0, 30};
            case "come":
                int tick = model.latestTick();
                ranges = new long[][] {{tick, Math.min(tick + 9, 500)}, {1, 40}, {0, 2}, {1, 9}};
                break;
            case "line":
                ranges = new long[][] {{1, 4}, {0, 5}, {0, 24}, {1, random.nextBoolean() ? 999 : 60}};
                break;
            case "jobAt":
                ranges = new long[][] {{0, Math.max(model.jobCount() - 1, 0)}, {0, 7}};
                break;
            case "numberAt":
                return new long[] {0, random.nextBoolean() ? 100 : 1500};
            case "meanTime":
                return new long[] {-1, 2};
            case "states":
                ranges = new long[][] {{1, 7}, {1, 100}};
                break;
            case "chance":
                ranges = new long[][] {{0, state}, {0, state}, {0, model.base()}};
                break;
            case "group":
                return new long[] {-1, state};
            case "longShare":
            case "reach":
            case "timeTo":
                return new long[] {0, state};
            case "behind":
                ranges = new long[][] {{0, state}, {0, state}, {0, 60}};
                break;
            case "lostShare":
                ranges = new long[][] {{0, 30}, {0, 999}, {1, 999}};
                break;
            case "serversFor":
                ranges = new long[][] {{0, 99}, {1, random.nextBoolean() ? 9 : 999}, {0, 999}, {1, 999}};
                break;
            case "net":
                return new long[] {1, 4};
            case "node":
                ranges = new long[][] {{0, node}, {0, 1000}, {1, 1000}};
                break;
            case "way":
                ranges = new long[][] {{0, node}, {0, node}, {0, 100}};
                break;
            case "numbers":
                ranges = new long[][] {{0, node}, {-1, 9}};
                break;
            case "closed":
                ranges = new long[][] {{1, 3}, {0, node}};
                break;
            case "envelope":
                ranges = new long[][] {{0, 999}, {0, 99}, {1, 99}};
                break;
            case "server":
                ranges = new long[][] {{0, 99}, {1, 99}, {1, 99}};
                break;
            case "option":
                ranges = new long[][] {{0, 2}, {0, 999}, {0, 99}};
                break;
            case "split":
                ranges = new long[][] {{1, 30}, {0, 2}};
                break;
            default:
                ranges = new long[][] {name.equals("price") ? new long[] {1, 30} : new long[] {0, node}};
        }
        return ranges[place];
    }

    private void call(String name, long... numbers) {
        if (calls >= CALLS || wrong > 0) {
            return;
        }
        calls++;
        told.add(name + Arrays.toString(numbers));
        Object got = invoke(FACE.get(name), object, numbers);
        Object want = invoke(MODEL.get(name), model, numbers);
        outcomes.merge(name + (want instanceof Class ? " " + want : ""), 1, Integer::sum);
        if (!got.equals(want)) {
            wrong++;
            System.out.println(String.join("\n", told));
            System.out.println("answered " + got + ", due is " + want);
        }
    }

    private static Object invoke(Method method, Object target, long[] numbers) {
        Class<?>[] types = method.getParameterTypes();
        Object[] arguments = new Object[types.length];
        for (int i = 0; i < types.length; i++) {
            arguments[i] = types[i] == boolean.class ? (Object) (numbers[i] != 0)
                : types[i] == long.class ? (Object) numbers[i] : (Object) (int) numbers[i];
        }
        try {
            return method.invoke(target, arguments);
        } catch (InvocationTargetException e) {
            if (e.getCause() instanceof RuntimeException) {
                return e.getCause().getClass();
            }
            throw new AssertionError(e.getCause());
        } catch (IllegalAccessException e) {
            throw new AssertionError(e);
        }
    }
}
