import java.math.BigInteger;
import java.util.ArrayDeque;
import java.util.ArrayList;
import java.util.List;
import java.util.NoSuchElementException;
import java.util.regex.Matcher;
import java.util.regex.Pattern;

/**
 * The document once more, for the tests, by the Java library and by other ways than Queueward goes: with BigInteger,
 * by elimination instead of determinants, by trying all sets and spans, and by regular expressions.
 */
public final class Model {
    private Ratio result = Ratio.ZERO;
    private String tape = "";
    private List<int[]> jobs = new ArrayList<>();
    private final ArrayDeque<List<int[]>> changes = new ArrayDeque<>();
    private int[] line = {1, 0, 24, 999};
    private int base = 1;
    private int[][] parts = {{1}};
    private int[] comings = {0};
    private int[] serves = {1};
    private int[][] percents = {{0}};
    private int[] envelope = {0, 0, 1};
    private final List<int[]> row = new ArrayList<>();
    private final int[][] options = new int[3][2];

    /** The RESULT as write() puts it. */
    String text() {
        return result.above + "/" + result.below;
    }

    int jobCount() {
        return jobs.size();
    }

    int latestTick() {
        return jobs.isEmpty() ? 0 : jobs.get(jobs.size() - 1)[0];
    }

    int stateCount() {
        return parts.length;
    }

    int base() {
        return base;
    }

    int nodeCount() {
        return comings.length;
    }

    private static void argument(boolean isRight) {
        if (!isRight) {
            throw new IllegalArgumentException();
        }
    }

    private static void state(boolean isRight) {
        if (!isRight) {
            throw new IllegalStateException();
        }
    }

    private static void index(boolean isRight) {
        if (!isRight) {
            throw new IndexOutOfBoundsException();
        }
    }

    private static void there(boolean isRight) {
        if (!isRight) {
            throw new NoSuchElementException();
        }
    }

    private static boolean in(int number, int least, int most) {
        return number >= least && number <= most;
    }

    private int come(Ratio fraction) {
        result = fraction;
        return fraction.sign();
    }

    // ---- fractions, the tape

    public long result(boolean isBelow) {
        BigInteger number = isBelow ? result.below : result.above;
        if (number.bitLength() > 63) {
            throw new ArithmeticException();
        }
        return number.longValue();
    }

    public int write() {
        state(text().length() <= 900);
        tape = text();
        return tape.length();
    }

    public int type(long signs) {
        StringBuilder more = new StringBuilder();
        for (byte sign : BigInteger.valueOf(signs).toByteArray()) {
            argument(sign == 0 || sign >= 32 && sign <= 126);
            if (sign != 0) {
                more.append((char) sign);
            }
        }
        state(tape.length() + more.length() <= 900);
        tape += more;
        return tape.length();
    }

    public int wipe() {
        int before = tape.length();
        tape = "";
        return before;
    }

    public int signAt(int index) {
        index(in(index, 0, tape.length() - 1));
        return tape.charAt(index);
    }

    private static final Pattern TOKEN = Pattern.compile(" *([a-z]+|[0-9]+|[^ ])");
    // By the kind of the token ahead ("." at first): which ones may follow.
    private static final String[][] FOLLOWERS = {
        {".", "at"}, {"at", "n"}, {"at n", "takes"}, {"takes", "n"}, {"takes n", "kind", "weighs", ";"},
        {"kind", "n"}, {"kind n", "weighs", ";"}, {"weighs", "n"}, {"weighs n", ";"}, {";", "at"}};

    public int fault() {
        return parse(new ArrayList<>());
    }

    private int parse(List<int[]> told) {
        Matcher matcher = TOKEN.matcher(tape);
        String ahead = ".";
        int[] job = null;
        int place = 0;
        while (matcher.find(place) && matcher.start() == place) {
            String token = matcher.group(1);
            String kind = token.matches("[0-9]{1,4}") ? "n" : token;
            boolean canFollow = false;
            for (String[] follower : FOLLOWERS) {
                canFollow |= follower[0].equals(ahead) && List.of(follower).lastIndexOf(kind) > 0;
            }
            if (!canFollow) {
                return matcher.start(1);
            }
            if (kind.equals("n")) {
                job[List.of("at", "takes", "kind", "weighs").indexOf(ahead)] = Integer.parseInt(token);
                ahead += " n";
            } else {
                ahead = kind;
            }
            if (kind.equals("at")) {
                job = new int[] {0, 0, 0, 1};
            } else if (kind.equals(";")) {
                told.add(job);
            }
            place = matcher.end();
        }
        return ahead.equals(".") || ahead.equals(";") ? -1 : tape.length();
    }

    public int read() {
        List<int[]> told = new ArrayList<>();
        argument(parse(told) == -1);
        for (int[] job : told) {
            argument(inRange(job));
        }
        List<int[]> all = new ArrayList<>(jobs);
        for (int[] job : told) {
            state(all.isEmpty() || job[0] >= all.get(all.size() - 1)[0]);
            all.add(job);
        }
        state(all.size() <= 24);
        change(all);
        return all.size();
    }

    // ---- lines

    private static boolean inRange(int[] job) {
        return in(job[0], 0, 500) && in(job[1], 1, 40) && in(job[2], 0, 2) && in(job[3], 1, 9);
    }

    private void change(List<int[]> then) {
        changes.addLast(jobs);
        if (changes.size() > 20) {
            changes.removeFirst();
        }
        jobs = then;
    }

    public int come(int tick, int length, int kind, int weight) {
        int[] job = {tick, length, kind, weight};
        argument(inRange(job));
        state(jobs.isEmpty() || tick >= jobs.get(jobs.size() - 1)[0]);
        state(jobs.size() < 24);
        List<int[]> all = new ArrayList<>(jobs);
        all.add(job);
        change(all);
        return all.size() - 1;
    }

    public int clear() {
        int before = jobs.size();
        change(new ArrayList<>());
        return before;
    }

    public int undo() {
        there(!changes.isEmpty());
        jobs = changes.removeLast();
        return changes.size();
    }

    public int line(int servers, int rule, int room, int patience) {
        argument(in(servers, 1, 4) && in(rule, 0, 5) && in(room, 0, 24) && in(patience, 1, 999));
        int before = line[1];
        line = new int[] {servers, rule, room, patience};
        return before;
    }

    /** What became of a job: its number, its rest, its state (-1: there), and the ticks. */
    private static final class Fate {
        final int number;
        final int[] job;
        int rest;
        int state = -1;
        int first = -1;
        int left;
        boolean isServed;

        Fate(int number, int[] job) {
            this.number = number;
            this.job = job;
            rest = job[1];
        }

        int key(int rule) {
            return rule == 2 ? job[1] : rule == 3 ? job[2] : rest;
        }
    }

    private static Fate choose(List<Fate> waiting, int rule) {
        if (rule == 0 || rule == 4) {
            return waiting.get(0);
        }
        if (rule == 1) {
            return waiting.get(waiting.size() - 1);
        }
        List<Fate> sorted = new ArrayList<>(waiting);
        sorted.sort((a, b) -> a.key(rule) != b.key(rule) ? a.key(rule) - b.key(rule) : a.number - b.number);
        return sorted.get(0);
    }

    private List<Fate> play(int[] how, List<Integer> numbers) {
        List<Fate> fates = new ArrayList<>();
        for (int[] job : jobs) {
            fates.add(new Fate(fates.size(), job));
        }
        List<Fate> waiting = new ArrayList<>();
        int open = fates.size();
        for (int tick = 0; open > 0; tick++) {
            for (Fate fate : List.copyOf(waiting)) {
                if (fate.first == -1 && tick - fate.job[0] >= how[3]) {
                    waiting.remove(fate);
                    fate.state = 1;
                    fate.left = tick;
                    open--;
                }
            }
            int there = waiting.size() + (int) fates.stream().filter(f -> f.isServed).count();
            for (Fate fate : fates) {
                if (fate.job[0] == tick) {
                    if (there < how[0] + how[2]) {
                        there++;
                        waiting.add(fate);
                    } else {
                        fate.state = 2;
                        fate.left = tick;
                        open--;
                    }
                }
            }
            while (!waiting.isEmpty() && fates.stream().filter(f -> f.isServed).count() < how[0]) {
                Fate fate = choose(waiting, how[1]);
                waiting.remove(fate);
                fate.isServed = true;
                fate.first = fate.first == -1 ? tick : fate.first;
            }
            numbers.add(waiting.size() + (int) fates.stream().filter(f -> f.isServed).count());
            for (Fate fate : fates) {
                if (fate.isServed && --fate.rest == 0) {
                    fate.isServed = false;
                    fate.state = 0;
                    fate.left = tick + 1;
                    open--;
                } else if (fate.isServed && how[1] >= 4) {
                    fate.isServed = false;
                    waiting.add(fate);
                }
            }
        }
        return fates;
    }

    public int jobAt(int job, int what) {
        index(in(job, 0, jobs.size() - 1));
        argument(in(what, 0, 7));
        Fate fate = play(line, new ArrayList<>()).get(job);
        int[] all = {fate.state, fate.first, fate.left, fate.left - fate.job[0],
            fate.job[0], fate.job[1], fate.job[2], fate.job[3]};
        return all[what];
    }

    public int numberAt(int tick) {
        List<Integer> numbers = new ArrayList<>();
        play(line, numbers);
        return in(tick, 0, numbers.size() - 1) ? numbers.get(tick) : 0;
    }

    public int meanTime(int kind) {
        argument(in(kind, -1, 2));
        long above = 0;
        long below = 0;
        for (Fate fate : play(line, new ArrayList<>())) {
            if (kind == -1 || fate.job[2] == kind) {
                above += (long) (fate.left - fate.job[0]) * fate.job[3];
                below += fate.job[3];
            }
        }
        return come(below == 0 ? Ratio.ZERO : Ratio.of(above, below));
    }

    public int sumTimes(boolean isLeast) {
        int sum = 0;
        for (Fate fate : play(isLeast ? new int[] {1, 5, 24, 100_000} : line, new ArrayList<>())) {
            sum += fate.left - fate.job[0];
        }
        return sum;
    }

    // ---- chains

    public int states(int states, int base) {
        argument(in(states, 1, 7) && in(base, 1, 100));
        int before = parts.length;
        this.base = base;
        parts = new int[states][states];
        for (int i = 0; i < states; i++) {
            parts[i][i] = base;
        }
        return before;
    }

    private boolean isState(int state) {
        return in(state, 0, parts.length - 1);
    }

    private static int sum(int[] numbers) {
        int sum = 0;
        for (int number : numbers) {
            sum += number;
        }
        return sum;
    }

    private void lawful() {
        for (int[] state : parts) {
            there(sum(state) == base);
        }
    }

    public int chance(int from, int to, int parts) {
        index(isState(from) && isState(to));
        argument(in(parts, 0, base));
        this.parts[from][to] = parts;
        return sum(this.parts[from]);
    }

    /** Whether a path leads from a thing to another one, by as many steps as there are things at most. */
    private static boolean leads(int[][] ways, int from, int to, int steps) {
        if (from == to) {
            return true;
        }
        for (int other = 0; steps > 0 && other < ways.length; other++) {
            if (ways[from][other] > 0 && leads(ways, other, to, steps - 1)) {
                return true;
            }
        }
        return false;
    }

    private boolean leads(int from, int to) {
        return leads(parts, from, to, parts.length);
    }

    private List<Integer> groupOf(int state) {
        List<Integer> group = new ArrayList<>();
        for (int other = 0; other < parts.length; other++) {
            if (leads(state, other)) {
                if (!leads(other, state)) {
                    return List.of();
                }
                group.add(other);
            }
        }
        return group;
    }

    public int group(int state) {
        index(state == -1 || isState(state));
        lawful();
        List<List<Integer>> groups = new ArrayList<>();
        for (int other = 0; other < parts.length; other++) {
            if (!groupOf(other).isEmpty() && !groups.contains(groupOf(other))) {
                groups.add(groupOf(other));
            }
        }
        return state == -1 ? groups.size() : groups.indexOf(groupOf(state));
    }

    public int longShare(int state) {
        index(isState(state));
        lawful();
        List<Integer> group = groupOf(state);
        if (group.isEmpty()) {
            return come(Ratio.ZERO);
        }
        int n = group.size();
        Ratio[][] rows = Ratio.zeros(n, n + 1);
        for (int to = 0; to < n; to++) {
            for (int from = 0; from < n; from++) {
                int stays = from == to ? base : 0;
                rows[to][from] = Ratio.of(to == 0 ? 1 : parts[group.get(from)][group.get(to)] - stays);
            }
        }
        rows[0][n] = Ratio.ONE;
        return come(Ratio.solve(rows)[group.indexOf(state)]);
    }

    /** The chances to reach a state, from all of them: 0 where it is not led to, else by the equations. */
    private Ratio[] reaches(int to) {
        int n = parts.length;
        Ratio[][] rows = Ratio.zeros(n, n + 1);
        for (int from = 0; from < n; from++) {
            rows[from][from] = Ratio.ONE;
            if (from == to) {
                rows[from][n] = Ratio.ONE;
            } else if (leads(from, to)) {
                for (int other = 0; other < n; other++) {
                    rows[from][other] = rows[from][other].minus(Ratio.of(parts[from][other], base));
                }
            }
        }
        return Ratio.solve(rows);
    }

    public int reach(int from, int to) {
        index(isState(from) && isState(to));
        lawful();
        return come(reaches(to)[from]);
    }

    public int timeTo(int from, int to) {
        index(isState(from) && isState(to));
        lawful();
        Ratio[] reaches = reaches(to);
        there(reaches[from].same(Ratio.ONE));
        int n = parts.length;
        Ratio[][] rows = Ratio.zeros(n, n + 1);
        for (int state = 0; state < n; state++) {
            rows[state][state] = Ratio.ONE;
            if (state != to && reaches[state].same(Ratio.ONE)) {
                rows[state][n] = Ratio.ONE;
                for (int other = 0; other < n; other++) {
                    rows[state][other] = rows[state][other].minus(Ratio.of(parts[state][other], base));
                }
            }
        }
        return come(Ratio.solve(rows)[from]);
    }

    public int behind(int from, int to, int steps) {
        index(isState(from) && isState(to));
        argument(in(steps, 0, 60));
        lawful();
        int n = parts.length;
        Ratio[] chances = new Ratio[n];
        for (int i = 0; i < n; i++) {
            chances[i] = i == to ? Ratio.ONE : Ratio.ZERO;
        }
        for (int step = 0; step < steps; step++) {
            Ratio[] then = new Ratio[n];
            for (int i = 0; i < n; i++) {
                then[i] = Ratio.ZERO;
                for (int j = 0; j < n; j++) {
                    then[i] = then[i].plus(chances[j].times(Ratio.of(parts[i][j], base)));
                }
            }
            chances = then;
        }
        return come(chances[from]);
    }

    // ---- lost calls

    private static Ratio lost(int servers, Ratio load) {
        if (servers == 0) {
            return Ratio.ONE;
        }
        Ratio times = load.times(lost(servers - 1, load));
        return times.by(Ratio.of(servers).plus(times));
    }

    public int lostShare(int servers, int above, int below) {
        argument(in(servers, 0, 30) && in(above, 0, 999) && in(below, 1, 999));
        return come(lost(servers, Ratio.of(above, below)));
    }

    public int serversFor(int above, int below, int limitAbove, int limitBelow) {
        argument(in(above, 0, 999) && in(below, 1, 999) && in(limitAbove, 0, 999) && in(limitBelow, 1, 999));
        for (int servers = 0; servers <= 30; servers++) {
            if (lost(servers, Ratio.of(above, below)).compare(Ratio.of(limitAbove, limitBelow)) <= 0) {
                return servers;
            }
        }
        throw new NoSuchElementException();
    }

    // ---- nets

    public int net(int nodes) {
        argument(in(nodes, 1, 4));
        int before = comings.length;
        comings = new int[nodes];
        serves = new int[nodes];
        java.util.Arrays.fill(serves, 1);
        percents = new int[nodes][nodes];
        return before;
    }

    private boolean isNode(int node) {
        return in(node, 0, comings.length - 1);
    }

    public int node(int node, int come, int serves) {
        index(isNode(node));
        argument(in(come, 0, 1000) && in(serves, 1, 1000));
        int before = comings[node];
        comings[node] = come;
        this.serves[node] = serves;
        return before;
    }

    public int way(int from, int to, int percent) {
        index(isNode(from) && isNode(to));
        argument(in(percent, 0, 100));
        int[] then = percents[from].clone();
        then[to] = percent;
        argument(sum(then) <= 100);
        percents[from] = then;
        return sum(then);
    }

    private void needRates() {
        for (int node = 0; node < comings.length; node++) {
            boolean isOut = false;
            for (int other = 0; other < comings.length; other++) {
                isOut |= sum(percents[other]) < 100 && leads(percents, node, other, comings.length);
            }
            there(isOut);
        }
    }

    /** What comes to the nodes, if those of a set pass on their service rates. */
    private Ratio[] flows(int full) {
        int n = comings.length;
        Ratio[][] rows = Ratio.zeros(n, n + 1);
        for (int to = 0; to < n; to++) {
            rows[to][to] = Ratio.ONE;
            rows[to][n] = Ratio.of(comings[to]);
            for (int from = 0; from < n; from++) {
                Ratio share = Ratio.of(percents[from][to], 100);
                if ((full & 1 << from) != 0) {
                    rows[to][n] = rows[to][n].plus(share.times(Ratio.of(serves[from])));
                } else {
                    rows[to][from] = rows[to][from].minus(share);
                }
            }
        }
        return Ratio.solve(rows);
    }

    private Ratio load(int node) {
        return flows(0)[node].by(Ratio.of(serves[node]));
    }

    public int rate(int node) {
        index(isNode(node));
        needRates();
        return come(flows(0)[node]);
    }

    public boolean isStable(int node) {
        index(isNode(node));
        needRates();
        return load(node).compare(Ratio.ONE) < 0;
    }

    public int numbers(int node, int many) {
        index(isNode(node));
        argument(in(many, -1, 9));
        there(isStable(node));
        Ratio load = load(node);
        Ratio rest = Ratio.ONE.minus(load);
        return come(many == -1 ? load.by(rest) : rest.times(load.power(many)));
    }

    public int growth(int node) {
        index(isNode(node));
        needRates();
        for (int full = 0; full < 1 << comings.length; full++) {
            Ratio[] flows = flows(full);
            boolean isSo = true;
            for (int i = 0; i < comings.length; i++) {
                isSo &= (full & 1 << i) != 0 == flows[i].compare(Ratio.of(serves[i])) > 0;
            }
            if (isSo) {
                Ratio more = flows[node].minus(Ratio.of(serves[node]));
                return come(more.sign() < 0 ? Ratio.ZERO : more);
            }
        }
        throw new AssertionError("no set of full nodes is right");
    }

    private boolean isClosed() {
        for (int i = 0; i < comings.length; i++) {
            for (int j = 0; j < comings.length; j++) {
                if (comings[i] != 0 || sum(percents[i]) != 100 || !leads(percents, i, j, comings.length)) {
                    return false;
                }
            }
        }
        return true;
    }

    public int closed(int jobs, int node) {
        index(isNode(node));
        argument(in(jobs, 1, 3));
        state(isClosed());
        int n = comings.length;
        Ratio[][] rows = Ratio.zeros(n, n + 1);
        rows[0][0] = Ratio.ONE;
        rows[0][n] = Ratio.ONE;
        for (int to = 1; to < n; to++) {
            rows[to][to] = Ratio.ONE;
            for (int from = 0; from < n; from++) {
                rows[to][from] = rows[to][from].minus(Ratio.of(percents[from][to], 100));
            }
        }
        Ratio[] loads = Ratio.solve(rows);
        for (int i = 0; i < n; i++) {
            loads[i] = loads[i].by(Ratio.of(serves[i]));
        }
        Ratio[] sums = {Ratio.ZERO, Ratio.ZERO};
        addStates(loads, node, 0, jobs, 0, Ratio.ONE, sums);
        return come(sums[1].by(sums[0]));
    }

    private static void addStates(Ratio[] loads, int node, int at, int rest, int here, Ratio share, Ratio[] sums) {
        if (at == loads.length) {
            if (rest == 0) {
                sums[0] = sums[0].plus(share);
                sums[1] = sums[1].plus(share.times(Ratio.of(here)));
            }
            return;
        }
        for (int count = 0; count <= rest; count++) {
            addStates(loads, node, at + 1, rest - count, at == node ? count : here,
                share.times(loads[at].power(count)), sums);
        }
    }

    // ---- envelopes

    public int envelope(int burst, int above, int below) {
        argument(in(burst, 0, 999) && in(above, 0, 99) && in(below, 1, 99));
        envelope = new int[] {burst, above, below};
        int before = row.size();
        row.clear();
        return before;
    }

    public int server(int latency, int above, int below) {
        argument(in(latency, 0, 99) && in(above, 1, 99) && in(below, 1, 99));
        state(row.size() < 4);
        row.add(new int[] {latency, above, below});
        return row.size();
    }

    public int bound(boolean isBuffer) {
        there(!row.isEmpty());
        Ratio burst = Ratio.of(envelope[0]);
        Ratio rate = Ratio.of(envelope[1], envelope[2]);
        Ratio latencies = Ratio.ZERO;
        Ratio least = Ratio.of(1000);
        for (int[] server : row) {
            Ratio own = Ratio.of(server[1], server[2]);
            latencies = latencies.plus(Ratio.of(server[0]));
            least = own.compare(least) < 0 ? own : least;
        }
        there(rate.compare(least) <= 0);
        return come(isBuffer ? burst.plus(rate.times(latencies)) : latencies.plus(burst.by(least)));
    }

    public boolean fits() {
        int[] lengths = new int[501];
        for (int[] job : jobs) {
            lengths[job[0]] += job[1];
        }
        for (int s = 0; s <= 500; s++) {
            long sum = 0;
            for (int t = s; t <= 500; t++) {
                sum += lengths[t];
                if (sum * envelope[2] > (long) envelope[0] * envelope[2] + (long) (t - s) * envelope[1]) {
                    return false;
                }
            }
        }
        return true;
    }

    // ---- games

    public int option(int line, int constant, int slope) {
        argument(in(line, 0, 2) && in(constant, 0, 999) && in(slope, 0, 99));
        int before = options[line][0];
        options[line] = new int[] {constant, slope};
        return before;
    }

    private int pay(int line, int players) {
        return options[line][0] + players * options[line][1];
    }

    private int payAll(int[] split) {
        int sum = 0;
        for (int line = 0; line < 3; line++) {
            sum += split[line] * pay(line, split[line]);
        }
        return sum;
    }

    private int[] split(int players, boolean isBest) {
        int[] split = new int[3];
        for (int player = 0; player < players; player++) {
            int best = -1;
            int least = Integer.MAX_VALUE;
            for (int line = 0; line < 3; line++) {
                split[line]++;
                int cost = isBest ? payAll(split) : pay(line, split[line]);
                split[line]--;
                if (cost < least) {
                    least = cost;
                    best = line;
                }
            }
            split[best]++;
        }
        return split;
    }

    public int split(int players, int line, boolean isBest) {
        argument(in(players, 1, 30) && in(line, 0, 2));
        return split(players, isBest)[line];
    }

    public int price(int players) {
        argument(in(players, 1, 30));
        int best = payAll(split(players, true));
        return come(best == 0 ? Ratio.ONE : Ratio.of(payAll(split(players, false)), best));
    }

    // ---- measures

    public double mean() {
        return jobs.isEmpty() ? 0.0 : (double) sumTimes(false) / (double) jobs.size();
    }

    public float doneShare() {
        long done = play(line, new ArrayList<>()).stream().filter(f -> f.state == 0).count();
        return jobs.isEmpty() ? 0.0f : (float) done / (float) jobs.size();
    }

    public int errors() {
        return 0;
    }
}
