import java.util.Arrays;
import java.util.NoSuchElementException;

/** Waiting lines and their laws by exact fractions; ../shared/DOC.md says what each call promises. */
public final class Queueward {
    /** There is none. */
    public static final int NONE = -1;

    private static final int KINDS = 3;
    private static final int RULES = 6;
    private static final int LEAST_REST_RULE = 5;
    private static final int MOST_SERVERS = 4;
    private static final int MOST_PATIENCE = 999;
    private static final int MOST_LOST_CALL_SERVERS = 30;
    private static final int MOST_LOAD = 999;
    private static final int MOST_STEPS = 60;
    private static final int MOST_MANY = 9;
    private static final int MOST_PLAYERS = 30;
    private static final int UNKNOWN = -1;

    private final Fraction fraction = new Fraction();
    private final Tape tape = new Tape();
    private final Jobs jobs = new Jobs();
    private final Play linePlay = new Play();
    private final Play freePlay = new Play();
    private final int[] freeSums = new int[RULES];
    private int freeLongest;
    private boolean isPlayed;
    private final Chain chain = new Chain();
    private final Loss loss = new Loss();
    private final Net network = new Net();
    private final Envelope stream = new Envelope();
    private final Game game = new Game();

    public Queueward() {
        Arrays.fill(freeSums, UNKNOWN);
    }

    // ---- fractions, the tape

    public long result(boolean isBelow) throws ArithmeticException {
        Big number = isBelow ? fraction.below : fraction.above;
        if (!number.isLong()) {
            throw new ArithmeticException("the number is no long");
        }
        return number.toLong();
    }

    public int write() throws IllegalStateException {
        int aboveSigns = fraction.above.digitCount();
        int belowSigns = fraction.below.digitCount();
        if (aboveSigns + 1 + belowSigns > Tape.MOST_SIGNS) {
            throw new IllegalStateException("the tape would be too long");
        }
        tape.length = 0;
        tape.putDigits(fraction.above);
        tape.put('/');
        tape.putDigits(fraction.below);
        return tape.length;
    }

    public int type(long signs) throws IllegalArgumentException, IllegalStateException {
        int count = 0;
        for (int shift = 56; shift >= 0; shift -= 8) {
            int sign = (int) (signs >>> shift) & 255;
            if (sign != 0 && (sign < 32 || sign > 126)) {
                throw new IllegalArgumentException("a byte is no sign of the tape");
            }
            count += sign != 0 ? 1 : 0;
        }
        if (tape.length + count > Tape.MOST_SIGNS) {
            throw new IllegalStateException("the tape would be too long");
        }
        for (int shift = 56; shift >= 0; shift -= 8) {
            int sign = (int) (signs >>> shift) & 255;
            if (sign != 0) {
                tape.put(sign);
            }
        }
        return tape.length;
    }

    public int wipe() {
        int before = tape.length;
        tape.length = 0;
        return before;
    }

    public int signAt(int index) throws IndexOutOfBoundsException {
        if (index < 0 || index >= tape.length) {
            throw new IndexOutOfBoundsException("there is no such sign");
        }
        return tape.signs[index];
    }

    public int fault() {
        return tape.scan();
    }

    public int read() throws IllegalArgumentException, IllegalStateException {
        if (tape.scan() != NONE || !tape.areNumbersInRange()) {
            throw new IllegalArgumentException("the tape has a fault, or a number out of range");
        }
        int latest = jobs.latestTick();
        for (int come = 0; come < tape.comes; come++) {
            int tick = tape.told(come, Jobs.TICK);
            if (tick < latest) {
                throw new IllegalStateException("clocks don't go back");
            }
            latest = tick;
        }
        if (jobs.count + tape.comes > Jobs.MOST_JOBS) {
            throw new IllegalStateException("there would be too many jobs");
        }
        jobs.remember();
        for (int come = 0; come < tape.comes; come++) {
            jobs.add(tape.told(come, Jobs.TICK), tape.told(come, Jobs.LENGTH),
                tape.told(come, Jobs.KIND), tape.told(come, Jobs.WEIGHT));
        }
        forgetPlays();
        return jobs.count;
    }

    // ---- lines

    public int come(int tick, int length, int kind, int weight)
        throws IllegalArgumentException, IllegalStateException {
        if (!Jobs.isInRange(tick, length, kind, weight)) {
            throw new IllegalArgumentException("a number of the job is out of range");
        }
        if (tick < jobs.latestTick() || jobs.count >= Jobs.MOST_JOBS) {
            throw new IllegalStateException("the job comes too early, or there are too many");
        }
        jobs.remember();
        jobs.add(tick, length, kind, weight);
        forgetPlays();
        return jobs.count - 1;
    }

    public int clear() {
        int before = jobs.count;
        jobs.remember();
        jobs.count = 0;
        forgetPlays();
        return before;
    }

    public int undo() throws NoSuchElementException {
        if (jobs.kept == 0) {
            throw new NoSuchElementException("there is no change to undo");
        }
        jobs.takeBack();
        forgetPlays();
        return jobs.kept;
    }

    public int line(int servers, int rule, int room, int patience) throws IllegalArgumentException {
        if (servers < 1 || servers > MOST_SERVERS || rule < 0 || rule >= RULES
            || room < 0 || room > Jobs.MOST_JOBS || patience < 1 || patience > MOST_PATIENCE) {
            throw new IllegalArgumentException("a number of the line is out of range");
        }
        int before = linePlay.rule;
        linePlay.set(servers, rule, room, patience);
        isPlayed = false;
        return before;
    }

    public int jobAt(int job, int what) throws IndexOutOfBoundsException, IllegalArgumentException {
        if (job < 0 || job >= jobs.count) {
            throw new IndexOutOfBoundsException("there is no such job");
        }
        if (what < 0 || what > 7) {
            throw new IllegalArgumentException("what is out of range");
        }
        if (what >= 4) {
            return jobs.part(job, what - 4);
        }
        playLine();
        switch (what) {
            case 0:
                return linePlay.state[job];
            case 1:
                return linePlay.first[job];
            case 2:
                return linePlay.left[job];
            default:
                return linePlay.timeOf(jobs, job);
        }
    }

    public int numberAt(int tick) {
        playLine();
        return tick < 0 || tick >= linePlay.ticks ? 0 : linePlay.there[tick];
    }

    public int meanTime(int kind) throws IllegalArgumentException {
        if (kind < NONE || kind >= KINDS) {
            throw new IllegalArgumentException("kind is out of range");
        }
        playLine();
        long times = 0;
        long weights = 0;
        for (int job = 0; job < jobs.count; job++) {
            if (kind == NONE || jobs.part(job, Jobs.KIND) == kind) {
                int weight = jobs.part(job, Jobs.WEIGHT);
                times += (long) linePlay.timeOf(jobs, job) * weight;
                weights += weight;
            }
        }
        return fraction.setLongs(times, Math.max(weights, 1));
    }

    public int sumTimes(boolean isLeast) {
        if (isLeast) {
            return freeSum(LEAST_REST_RULE);
        }
        playLine();
        return linePlay.sumOfTimes(jobs);
    }

    // ---- chains

    public int states(int states, int base) throws IllegalArgumentException {
        if (states < 1 || states > Chain.MOST_STATES || base < 1 || base > Chain.MOST_BASE) {
            throw new IllegalArgumentException("a number of the chain is out of range");
        }
        int before = chain.count;
        chain.make(states, base);
        return before;
    }

    public int chance(int from, int to, int parts) throws IndexOutOfBoundsException, IllegalArgumentException {
        needStates(from, to);
        if (parts < 0 || parts > chain.base) {
            throw new IllegalArgumentException("parts is out of range");
        }
        chain.parts[from][to] = parts;
        return sumOf(chain.parts[from]);
    }

    public int group(int state) throws IndexOutOfBoundsException, NoSuchElementException {
        if (state != NONE) {
            needStates(state, state);
        }
        needLawful();
        chain.findLeads();
        return state == NONE ? chain.groupsBelow(chain.count) : chain.groupNumber(state);
    }

    public int longShare(int state) throws IndexOutOfBoundsException, NoSuchElementException {
        needStates(state, state);
        needLawful();
        chain.findLeads();
        return chain.shareOf(state, fraction);
    }

    public int reach(int from, int to) throws IndexOutOfBoundsException, NoSuchElementException {
        needStates(from, to);
        needLawful();
        chain.findLeads();
        return chain.chanceToReach(from, to, fraction);
    }

    public int timeTo(int from, int to) throws IndexOutOfBoundsException, NoSuchElementException {
        needStates(from, to);
        needLawful();
        chain.findLeads();
        if (!chain.isReachedSurely(from, to)) {
            throw new NoSuchElementException("the state is not reached with the chance 1");
        }
        return chain.meanStepsTo(from, to, fraction);
    }

    public int behind(int from, int to, int steps)
        throws IndexOutOfBoundsException, IllegalArgumentException, NoSuchElementException {
        needStates(from, to);
        if (steps < 0 || steps > MOST_STEPS) {
            throw new IllegalArgumentException("steps is out of range");
        }
        needLawful();
        return chain.chanceBehind(from, to, steps, fraction);
    }

    private void needStates(int from, int to) {
        if (from < 0 || from >= chain.count || to < 0 || to >= chain.count) {
            throw new IndexOutOfBoundsException("there is no such state");
        }
    }

    private void needLawful() {
        if (!chain.isLawful()) {
            throw new NoSuchElementException("the chain is not lawful");
        }
    }

    // ---- lost calls

    public int lostShare(int servers, int above, int below) throws IllegalArgumentException {
        if (servers < 0 || servers > MOST_LOST_CALL_SERVERS) {
            throw new IllegalArgumentException("servers is out of range");
        }
        needFraction(above, below);
        loss.start(above, below);
        for (int server = 1; server <= servers; server++) {
            loss.addServer(server);
        }
        return fraction.setBigs(loss.lost, loss.all);
    }

    public int serversFor(int above, int below, int limitAbove, int limitBelow)
        throws IllegalArgumentException, NoSuchElementException {
        needFraction(above, below);
        needFraction(limitAbove, limitBelow);
        loss.start(above, below);
        for (int server = 0; server <= MOST_LOST_CALL_SERVERS; server++) {
            if (server > 0) {
                loss.addServer(server);
            }
            if (loss.isAtMost(limitAbove, limitBelow)) {
                return server;
            }
        }
        throw new NoSuchElementException("so many servers are not enough");
    }

    private static void needFraction(int above, int below) {
        if (above < 0 || above > MOST_LOAD || below < 1 || below > MOST_LOAD) {
            throw new IllegalArgumentException("a number of the fraction is out of range");
        }
    }

    // ---- nets

    public int net(int nodes) throws IllegalArgumentException {
        if (nodes < 1 || nodes > Net.MOST_NODES) {
            throw new IllegalArgumentException("nodes is out of range");
        }
        int before = network.count;
        network.make(nodes);
        return before;
    }

    public int node(int node, int come, int serves) throws IndexOutOfBoundsException, IllegalArgumentException {
        needNodes(node, node);
        if (come < 0 || come > Net.MOST_RATE || serves < 1 || serves > Net.MOST_RATE) {
            throw new IllegalArgumentException("a number of the node is out of range");
        }
        int before = network.comings[node];
        network.comings[node] = come;
        network.serves[node] = serves;
        return before;
    }

    public int way(int from, int to, int percent) throws IndexOutOfBoundsException, IllegalArgumentException {
        needNodes(from, to);
        if (percent < 0 || percent > 100
            || sumOf(network.percents[from]) - network.percents[from][to] + percent > 100) {
            throw new IllegalArgumentException("the percent is out of range");
        }
        network.percents[from][to] = percent;
        return sumOf(network.percents[from]);
    }

    public int rate(int node) throws IndexOutOfBoundsException, NoSuchElementException {
        needNodes(node, node);
        needRates();
        network.solve(0);
        return fraction.setLongs(network.above[node], network.below);
    }

    public boolean isStable(int node) throws IndexOutOfBoundsException, NoSuchElementException {
        needNodes(node, node);
        needRates();
        network.solve(0);
        return network.isBelowService(node);
    }

    public int numbers(int node, int many)
        throws IndexOutOfBoundsException, IllegalArgumentException, NoSuchElementException {
        needNodes(node, node);
        if (many < NONE || many > MOST_MANY) {
            throw new IllegalArgumentException("many is out of range");
        }
        needRates();
        network.solve(0);
        if (!network.isBelowService(node)) {
            throw new NoSuchElementException("the node is not stable");
        }
        return many == NONE ? network.meanNumber(node, fraction) : network.chanceOf(node, many, fraction);
    }

    public int growth(int node) throws IndexOutOfBoundsException, NoSuchElementException {
        needNodes(node, node);
        needRates();
        network.solveGrowth();
        long more = network.above[node] - network.serves[node] * network.below;
        return fraction.setLongs(Math.max(more, 0), network.below);
    }

    public int closed(int jobs, int node)
        throws IndexOutOfBoundsException, IllegalArgumentException, IllegalStateException {
        needNodes(node, node);
        if (jobs < 1 || jobs > Net.MOST_ROUND) {
            throw new IllegalArgumentException("jobs is out of range");
        }
        if (!network.isWithoutOutside()) {
            throw new IllegalStateException("the net is not closed");
        }
        return network.meanInRound(jobs, node, fraction);
    }

    private void needNodes(int from, int to) {
        if (from < 0 || from >= network.count || to < 0 || to >= network.count) {
            throw new IndexOutOfBoundsException("there is no such node");
        }
    }

    private void needRates() {
        if (!network.areRatesThere()) {
            throw new NoSuchElementException("the rates are not there");
        }
    }

    // ---- envelopes

    public int envelope(int burst, int above, int below) throws IllegalArgumentException {
        if (burst < 0 || burst > Envelope.MOST_BURST || above < 0 || above > Envelope.MOST_RATE
            || below < 1 || below > Envelope.MOST_RATE) {
            throw new IllegalArgumentException("a number of the envelope is out of range");
        }
        int before = stream.servers;
        stream.set(burst, above, below);
        return before;
    }

    public int server(int latency, int above, int below) throws IllegalArgumentException, IllegalStateException {
        if (latency < 0 || latency > Envelope.MOST_RATE || above < 1 || above > Envelope.MOST_RATE
            || below < 1 || below > Envelope.MOST_RATE) {
            throw new IllegalArgumentException("a number of the server is out of range");
        }
        if (stream.servers >= Envelope.MOST_IN_ROW) {
            throw new IllegalStateException("there are too many servers");
        }
        stream.addServer(latency, above, below);
        return stream.servers;
    }

    public int bound(boolean isBuffer) throws NoSuchElementException {
        if (!stream.isBounded()) {
            throw new NoSuchElementException("the bound is not there");
        }
        return isBuffer ? stream.bufferBound(fraction) : stream.delayBound(fraction);
    }

    public boolean fits() {
        return stream.holds(jobs);
    }

    // ---- games

    public int option(int line, int constant, int slope) throws IllegalArgumentException {
        if (line < 0 || line >= Game.LINES || constant < 0 || constant > Game.MOST_CONSTANT
            || slope < 0 || slope > Game.MOST_SLOPE) {
            throw new IllegalArgumentException("a number of the line is out of range");
        }
        int before = game.constants[line];
        game.constants[line] = constant;
        game.slopes[line] = slope;
        return before;
    }

    public int split(int players, int line, boolean isBest) throws IllegalArgumentException {
        if (players < 1 || players > MOST_PLAYERS || line < 0 || line >= Game.LINES) {
            throw new IllegalArgumentException("players or line is out of range");
        }
        game.choose(players, isBest);
        return game.chosen[line];
    }

    public int price(int players) throws IllegalArgumentException {
        if (players < 1 || players > MOST_PLAYERS) {
            throw new IllegalArgumentException("players is out of range");
        }
        game.choose(players, false);
        long balanced = game.sumOfPays();
        game.choose(players, true);
        long best = game.sumOfPays();
        return best == 0 ? fraction.setLongs(1, 1) : fraction.setLongs(balanced, best);
    }

    // ---- measures

    public double mean() {
        if (jobs.count == 0) {
            return 0.0;
        }
        playLine();
        return (double) linePlay.sumOfTimes(jobs) / (double) jobs.count;
    }

    public float doneShare() {
        if (jobs.count == 0) {
            return 0.0f;
        }
        playLine();
        int done = 0;
        for (int job = 0; job < jobs.count; job++) {
            done += linePlay.state[job] == Play.DONE ? 1 : 0;
        }
        return (float) done / (float) jobs.count;
    }

    public int errors() {
        playLine();
        int wrong = linePlay.sumOfNumbers() == linePlay.sumOfTimes(jobs) ? 0 : 1;
        wrong += isLeastSumLeast() ? 0 : 1;
        wrong += chain.isLawful() && !chain.doSharesStay() ? 1 : 0;
        wrong += network.isWithoutOutside() && !network.doSharesStay() ? 1 : 0;
        wrong += areTimesWithinBurst() ? 0 : 1;
        game.choose(10, false);
        wrong += game.isNobodyBetterOff() ? 0 : 1;
        return wrong;
    }

    private boolean isLeastSumLeast() {
        int least = freeSum(LEAST_REST_RULE);
        for (int rule = 0; rule < RULES; rule++) {
            if (freeSum(rule) < least) {
                return false;
            }
        }
        return true;
    }

    private boolean areTimesWithinBurst() {
        if (stream.above > stream.below || !stream.holds(jobs)) {
            return true;
        }
        freeSum(0);
        return freeLongest <= stream.burst;
    }

    private void forgetPlays() {
        isPlayed = false;
        Arrays.fill(freeSums, UNKNOWN);
    }

    private void playLine() {
        if (!isPlayed) {
            linePlay.run(jobs);
            isPlayed = true;
        }
    }

    /** No job ever waits longer than all lengths together, 960 ticks, so that this patience is enough for all. */
    private int freeSum(int rule) {
        if (freeSums[rule] == UNKNOWN) {
            freePlay.set(1, rule, Jobs.MOST_JOBS, MOST_PATIENCE);
            freePlay.run(jobs);
            freeSums[rule] = freePlay.sumOfTimes(jobs);
            if (rule == 0) {
                freeLongest = freePlay.longestTime(jobs);
            }
        }
        return freeSums[rule];
    }

    /** Puts the set of those that each of some things leads to, by any number of ways, in the place of leads. */
    private static void followWays(int[][] ways, int count, int[] leads) {
        for (int from = 0; from < count; from++) {
            leads[from] = 1 << from;
            for (int to = 0; to < count; to++) {
                leads[from] |= ways[from][to] > 0 ? 1 << to : 0;
            }
        }
        for (int middle = 0; middle < count; middle++) {
            for (int from = 0; from < count; from++) {
                if (isIn(leads[from], middle)) {
                    leads[from] |= leads[middle];
                }
            }
        }
    }

    private static boolean isIn(int set, int number) {
        return (set >> number & 1) != 0;
    }

    private static int sumOf(int[] row) {
        int sum = 0;
        for (int number : row) {
            sum += number;
        }
        return sum;
    }

    /** A whole number from 0 on: limbs of nine decimal digits, so that it is written without dividing it. */
    private static final class Big {
        static final int DIGITS = 9;
        static final long BASE = 1_000_000_000L;
        // The greatest number of all calls has some 130 digits: 999 * 999^30 * 31!.
        static final int LIMBS = 20;
        static final int[] POWERS = {1, 10, 100, 1_000, 10_000, 100_000, 1_000_000, 10_000_000, 100_000_000};
        private static final long LONG_TOP = 9;
        private static final long LONG_REST = 223_372_036_854_775_807L;

        // The lowest limb comes first; those from size on are always 0.
        final int[] limbs = new int[LIMBS];
        int size;

        void setLong(long number) {
            Arrays.fill(limbs, 0);
            limbs[0] = (int) (number % BASE);
            limbs[1] = (int) (number / BASE % BASE);
            limbs[2] = (int) (number / BASE / BASE);
            trim(3);
        }

        void copy(Big other) {
            System.arraycopy(other.limbs, 0, limbs, 0, LIMBS);
            size = other.size;
        }

        private void trim(int end) {
            size = Math.min(end, LIMBS);
            while (size > 0 && limbs[size - 1] == 0) {
                size--;
            }
        }

        boolean isOne() {
            return size == 1 && limbs[0] == 1;
        }

        boolean isLong() {
            return size < 3 || size == 3
                && (limbs[2] < LONG_TOP || limbs[2] == LONG_TOP && limbs[1] * BASE + limbs[0] <= LONG_REST);
        }

        /** Only for a number that is a long. */
        long toLong() {
            return (limbs[2] * BASE + limbs[1]) * BASE + limbs[0];
        }

        int digitCount() {
            if (size == 0) {
                return 1;
            }
            int digits = 1;
            while (digits < DIGITS && limbs[size - 1] >= POWERS[digits]) {
                digits++;
            }
            return (size - 1) * DIGITS + digits;
        }

        /** The digit that counts 10 to the power of its place. */
        int digitAt(int place) {
            if (place < 0 || place >= LIMBS * DIGITS) {
                return 0;
            }
            return limbs[place / DIGITS] / POWERS[place % DIGITS] % 10;
        }

        int compareWith(Big other) {
            if (size != other.size) {
                return size < other.size ? -1 : 1;
            }
            for (int i = size - 1; i >= 0; i--) {
                if (limbs[i] != other.limbs[i]) {
                    return limbs[i] < other.limbs[i] ? -1 : 1;
                }
            }
            return 0;
        }

        /** The factor is below BASE * BASE, so that two limbs hold it and no sum leaves the longs. */
        void multiply(long factor) {
            long low = factor % BASE;
            long high = factor / BASE;
            long carry = 0;
            long last = 0;
            int end = Math.min(size + 2, LIMBS);
            for (int i = 0; i < end; i++) {
                long here = limbs[i];
                long sum = here * low + last * high + carry;
                limbs[i] = (int) (sum % BASE);
                carry = sum / BASE;
                last = here;
            }
            trim(end);
        }

        /** Adds another number, so many times: the factor is at most BASE. */
        void addScaled(Big other, long factor) {
            long carry = 0;
            int end = Math.min(Math.max(size, other.size) + 2, LIMBS);
            for (int i = 0; i < end; i++) {
                long sum = limbs[i] + other.limbs[i] * factor + carry;
                limbs[i] = (int) (sum % BASE);
                carry = sum / BASE;
            }
            trim(end);
        }

        /** Divides by a number above 0 that is at most a limb, and returns what is left. */
        private long divideByLimb(long divisor) {
            long rest = 0;
            if (divisor > 0) {
                for (int i = size - 1; i >= 0; i--) {
                    long here = rest * BASE + limbs[i];
                    limbs[i] = (int) (here / divisor);
                    rest = here % divisor;
                }
                trim(size);
            }
            return rest;
        }

        /**
         * Puts how often another number above 0 goes into this one in the place of quotient; what is left stays
         * here. It is the schoolbook's way; scaling both first makes its guess of a limb wrong by 2 at most.
         */
        void divide(Big divisor, Big quotient) {
            quotient.setLong(0);
            if (divisor.size == 0 || compareWith(divisor) < 0) {
                return;
            }
            if (divisor.size == 1) {
                quotient.copy(this);
                setLong(quotient.divideByLimb(divisor.limbs[0]));
                return;
            }
            long scale = BASE / (divisor.limbs[divisor.size - 1] + 1L);
            multiply(scale);
            divisor.multiply(scale);
            int highest = Math.min(size, LIMBS - 1) - divisor.size;
            for (int shift = highest; shift >= 0; shift--) {
                long digit = guess(divisor, shift);
                quotient.limbs[shift] = (int) takeAway(divisor, shift, digit);
            }
            quotient.trim(highest + 1);
            trim(size);
            divideByLimb(scale);
            divisor.divideByLimb(scale);
        }

        /** How often the divisor, so many limbs up, goes into this number, or 1 more: by their highest limbs. */
        private long guess(Big divisor, int shift) {
            int top = shift + divisor.size;
            if (divisor.size < 2 || top >= LIMBS) {
                return 0;
            }
            long first = divisor.limbs[divisor.size - 1];
            long second = divisor.limbs[divisor.size - 2];
            if (first == 0) {
                return 0;
            }
            long lead = limbs[top] * BASE + limbs[top - 1];
            long digit = lead / first;
            long rest = lead % first;
            for (int turn = 0; turn < 3 && rest < BASE
                && (digit >= BASE || digit * second > rest * BASE + limbs[top - 2]); turn++) {
                digit--;
                rest += first;
            }
            return digit;
        }

        /** Subtracts the divisor, so many limbs up, so many times; once less, if that is too often. */
        private long takeAway(Big divisor, int shift, long digit) {
            int top = shift + divisor.size;
            if (top >= LIMBS) {
                return 0;
            }
            long borrow = 0;
            for (int i = 0; i < divisor.size; i++) {
                long product = divisor.limbs[i] * digit + borrow;
                long difference = limbs[shift + i] - product % BASE;
                limbs[shift + i] = (int) (difference < 0 ? difference + BASE : difference);
                borrow = product / BASE + (difference < 0 ? 1 : 0);
            }
            long highest = limbs[top] - borrow;
            limbs[top] = (int) Math.max(highest, 0);
            if (highest < 0) {
                putBack(divisor, shift);
                return digit - 1;
            }
            return digit;
        }

        /** The carry out of the highest limb only mends the borrow that was too great by 1. */
        private void putBack(Big divisor, int shift) {
            long carry = 0;
            for (int i = 0; i < divisor.size && shift + i < LIMBS; i++) {
                long sum = (long) limbs[shift + i] + divisor.limbs[i] + carry;
                limbs[shift + i] = (int) (sum % BASE);
                carry = sum / BASE;
            }
        }
    }

    /** The RESULT. No call of the document comes to one below 0, so that it needs no minus. */
    private static final class Fraction {
        // Each step takes more than a fifth of a digit away.
        private static final int MOST_GCD_STEPS = 10_000;

        final Big above = new Big();
        final Big below = new Big();
        private final Big left = new Big();
        private final Big right = new Big();
        private final Big quotient = new Big();

        Fraction() {
            below.setLong(1);
        }

        static long gcd(long one, long other) {
            long left = one;
            long right = other;
            for (int step = 0; step < MOST_GCD_STEPS && right != 0; step++) {
                long rest = left % right;
                left = right;
                right = rest;
            }
            return left;
        }

        /** The number below the line is above 0. Returns the sign, as all that set this do. */
        int setLongs(long up, long down) {
            long common = Math.max(gcd(up, down), 1);
            above.setLong(up / common);
            below.setLong(down / common);
            return sign();
        }

        int setBigs(Big up, Big down) {
            left.copy(up);
            right.copy(down);
            Big common = left;
            Big rest = right;
            for (int step = 0; step < MOST_GCD_STEPS && rest.size > 0; step++) {
                common.divide(rest, quotient);
                Big next = common;
                common = rest;
                rest = next;
            }
            above.copy(up);
            below.copy(down);
            if (!common.isOne()) {
                shorten(above, common);
                shorten(below, common);
            }
            return sign();
        }

        private void shorten(Big number, Big common) {
            number.divide(common, quotient);
            number.copy(quotient);
        }

        private int sign() {
            return above.size == 0 ? 0 : 1;
        }
    }

    /** The row of signs, and the comings that are told on it. */
    private static final class Tape {
        static final int MOST_SIGNS = 900;
        // The shortest coming, at0takes1; has ten signs.
        private static final int MOST_COMES = MOST_SIGNS / 10;
        private static final int MOST_DIGITS = 4;

        // What the next token must be: these are the places of the grammar.
        private static final int AT_START = 0;
        private static final int BEHIND_AT = 1;
        private static final int BEHIND_TICK = 2;
        private static final int BEHIND_TAKES = 3;
        private static final int BEHIND_LENGTH = 4;
        private static final int BEHIND_KIND = 5;
        private static final int BEHIND_KIND_NUMBER = 6;
        private static final int BEHIND_WEIGHS = 7;
        private static final int BEHIND_WEIGHT = 8;

        final int[] signs = new int[MOST_SIGNS];
        int length;
        int comes;
        private final int[] numbersTold = new int[MOST_COMES * Jobs.PARTS];

        void put(int sign) {
            if (length < MOST_SIGNS) {
                signs[length] = sign;
                length++;
            }
        }

        void putDigits(Big number) {
            for (int place = number.digitCount() - 1; place >= 0; place--) {
                put('0' + number.digitAt(place));
            }
        }

        int told(int come, int part) {
            int index = come * Jobs.PARTS + part;
            return index < 0 || index >= numbersTold.length ? 0 : numbersTold[index];
        }

        private void tell(int part, int number) {
            int index = comes * Jobs.PARTS + part;
            if (index >= 0 && index < numbersTold.length) {
                numbersTold[index] = number;
            }
        }

        boolean areNumbersInRange() {
            for (int come = 0; come < comes; come++) {
                if (!Jobs.isInRange(told(come, Jobs.TICK), told(come, Jobs.LENGTH),
                    told(come, Jobs.KIND), told(come, Jobs.WEIGHT))) {
                    return false;
                }
            }
            return true;
        }

        /** Returns the fault, or NONE; then the comings are told. */
        int scan() {
            comes = 0;
            int state = AT_START;
            int start = skipBlanks(0);
            for (int token = 0; token < MOST_SIGNS && start < length; token++) {
                int end = endOfToken(start);
                state = stateBehind(state, start, end);
                if (state == NONE) {
                    return start;
                }
                start = skipBlanks(end);
            }
            return state == AT_START ? NONE : length;
        }

        private int skipBlanks(int from) {
            int place = from;
            while (place < length && signs[place] == ' ') {
                place++;
            }
            return place;
        }

        private int endOfToken(int start) {
            int place = start;
            while (place < length && isDigit(signs[place])) {
                place++;
            }
            if (place > start) {
                return place;
            }
            while (place < length && signs[place] >= 'a' && signs[place] <= 'z') {
                place++;
            }
            return place > start ? place : start + 1;
        }

        private static boolean isDigit(int sign) {
            return sign >= '0' && sign <= '9';
        }

        /** The state behind a token, or NONE if the token can't stand there. */
        private int stateBehind(int state, int start, int end) {
            switch (state) {
                case AT_START:
                    return stateBehindAt(start, end);
                case BEHIND_AT:
                    return stateBehindNumber(Jobs.TICK, start, end, BEHIND_TICK);
                case BEHIND_TICK:
                    return isWord("takes", start, end) ? BEHIND_TAKES : NONE;
                case BEHIND_TAKES:
                    return stateBehindNumber(Jobs.LENGTH, start, end, BEHIND_LENGTH);
                case BEHIND_LENGTH:
                    return isWord("kind", start, end) ? BEHIND_KIND : stateBehindKind(start, end);
                case BEHIND_KIND:
                    return stateBehindNumber(Jobs.KIND, start, end, BEHIND_KIND_NUMBER);
                case BEHIND_KIND_NUMBER:
                    return stateBehindKind(start, end);
                case BEHIND_WEIGHS:
                    return stateBehindNumber(Jobs.WEIGHT, start, end, BEHIND_WEIGHT);
                default:
                    return stateBehindEnd(start, end);
            }
        }

        private int stateBehindAt(int start, int end) {
            if (!isWord("at", start, end)) {
                return NONE;
            }
            tell(Jobs.KIND, 0);
            tell(Jobs.WEIGHT, 1);
            return BEHIND_AT;
        }

        private int stateBehindKind(int start, int end) {
            return isWord("weighs", start, end) ? BEHIND_WEIGHS : stateBehindEnd(start, end);
        }

        private int stateBehindEnd(int start, int end) {
            if (!isWord(";", start, end)) {
                return NONE;
            }
            comes++;
            return AT_START;
        }

        private int stateBehindNumber(int part, int start, int end, int state) {
            if (end - start > MOST_DIGITS) {
                return NONE;
            }
            int number = 0;
            for (int place = start; place < end && place < length; place++) {
                if (!isDigit(signs[place])) {
                    return NONE;
                }
                number = number * 10 + signs[place] - '0';
            }
            tell(part, number);
            return state;
        }

        private boolean isWord(String word, int start, int end) {
            if (end - start != word.length() || start < 0 || end > length) {
                return false;
            }
            for (int i = 0; i < word.length(); i++) {
                if (signs[start + i] != word.charAt(i)) {
                    return false;
                }
            }
            return true;
        }
    }

    /** The jobs told, and those of the latest changes. */
    private static final class Jobs {
        static final int MOST_JOBS = 24;
        static final int MOST_TICK = 500;
        static final int MOST_LENGTH = 40;
        static final int MOST_WEIGHT = 9;
        static final int MOST_KEPT = 20;

        static final int TICK = 0;
        static final int LENGTH = 1;
        static final int KIND = 2;
        static final int WEIGHT = 3;
        static final int PARTS = 4;

        int count;
        private final int[] parts = new int[MOST_JOBS * PARTS];
        // A ring: a change that is kept takes the place of the oldest one.
        int kept;
        private int newest;
        private final int[] keptCounts = new int[MOST_KEPT];
        private final int[][] keptParts = new int[MOST_KEPT][MOST_JOBS * PARTS];

        static boolean isInRange(int tick, int length, int kind, int weight) {
            return tick >= 0 && tick <= MOST_TICK && length >= 1 && length <= MOST_LENGTH
                && kind >= 0 && kind < KINDS && weight >= 1 && weight <= MOST_WEIGHT;
        }

        int part(int job, int part) {
            int index = job * PARTS + part;
            return index < 0 || index >= parts.length ? 0 : parts[index];
        }

        int latestTick() {
            return count == 0 ? 0 : part(count - 1, TICK);
        }

        void add(int tick, int length, int kind, int weight) {
            int index = count * PARTS;
            if (index >= 0 && index + WEIGHT < parts.length) {
                parts[index + TICK] = tick;
                parts[index + LENGTH] = length;
                parts[index + KIND] = kind;
                parts[index + WEIGHT] = weight;
                count++;
            }
        }

        void remember() {
            newest = (newest + 1) % MOST_KEPT;
            keptCounts[newest] = count;
            System.arraycopy(parts, 0, keptParts[newest], 0, parts.length);
            kept = Math.min(kept + 1, MOST_KEPT);
        }

        void takeBack() {
            if (kept > 0) {
                count = keptCounts[newest];
                System.arraycopy(keptParts[newest], 0, parts, 0, parts.length);
                newest = (newest + MOST_KEPT - 1) % MOST_KEPT;
                kept--;
            }
        }
    }

    /** A line, and what became of the jobs in it. */
    private static final class Play {
        static final int DONE = 0;
        static final int GONE = 1;
        static final int LOST = 2;
        private static final int THERE = 3;
        // While somebody is there, some job gets a tick of its length: all end by 500 + 24 * 40.
        private static final int MOST_TICKS = 1_500;
        private static final int LAST_RULE = 1;
        private static final int LEAST_LENGTH_RULE = 2;
        private static final int LEAST_KIND_RULE = 3;
        private static final int TURNS_RULE = 4;

        private int servers = 1;
        int rule = 0;
        private int room = Jobs.MOST_JOBS;
        private int patience = MOST_PATIENCE;

        int ticks;
        final int[] there = new int[MOST_TICKS];
        final int[] state = new int[Jobs.MOST_JOBS];
        final int[] first = new int[Jobs.MOST_JOBS];
        final int[] left = new int[Jobs.MOST_JOBS];
        private final int[] rest = new int[Jobs.MOST_JOBS];
        // What the rules 2 and 3 compare.
        private final int[] rank = new int[Jobs.MOST_JOBS];
        private final int[] row = new int[Jobs.MOST_JOBS];
        private int waiting;
        // Those who are served stand by their numbers, as they go back to the row in this order.
        private final int[] served = new int[MOST_SERVERS];
        private int busy;
        private int next;
        // All jobs have the same patience, so that it ends in the order in which they come.
        private int oldest;

        void set(int servers, int rule, int room, int patience) {
            this.servers = servers;
            this.rule = rule;
            this.room = room;
            this.patience = patience;
        }

        void run(Jobs jobs) {
            waiting = 0;
            busy = 0;
            next = 0;
            oldest = 0;
            ticks = 0;
            for (int tick = 0; tick < MOST_TICKS && (next < jobs.count || waiting + busy > 0); tick++) {
                letGo(jobs, tick);
                letIn(jobs, tick);
                seat(tick);
                there[tick] = waiting + busy;
                work(tick);
                ticks = tick + 1;
            }
        }

        private void letGo(Jobs jobs, int tick) {
            for (; oldest < next && jobs.part(oldest, Jobs.TICK) + patience <= tick; oldest++) {
                if (state[oldest] == THERE && first[oldest] == NONE) {
                    takeOut(placeInRow(oldest));
                    state[oldest] = GONE;
                    left[oldest] = tick;
                }
            }
        }

        private void letIn(Jobs jobs, int tick) {
            for (; next < jobs.count && next < state.length && jobs.part(next, Jobs.TICK) <= tick; next++) {
                first[next] = NONE;
                left[next] = tick;
                rest[next] = jobs.part(next, Jobs.LENGTH);
                rank[next] = jobs.part(next, rule == LEAST_KIND_RULE ? Jobs.KIND : Jobs.LENGTH);
                if (waiting + busy < servers + room) {
                    state[next] = THERE;
                    putInRow(next);
                } else {
                    state[next] = LOST;
                }
            }
        }

        private void seat(int tick) {
            for (int free = servers - busy; free > 0 && waiting > 0; free--) {
                int job = takeOut(placeToServe());
                if (first[job] == NONE) {
                    first[job] = tick;
                }
                int place = Math.min(busy, served.length - 1);
                for (; place > 0 && served[place - 1] > job; place--) {
                    served[place] = served[place - 1];
                }
                served[place] = job;
                busy++;
            }
        }

        private void work(int tick) {
            int count = Math.min(busy, served.length);
            busy = 0;
            for (int i = 0; i < count; i++) {
                int job = served[i];
                rest[job]--;
                if (rest[job] <= 0) {
                    state[job] = DONE;
                    left[job] = tick + 1;
                } else if (rule == TURNS_RULE || rule == LEAST_REST_RULE) {
                    putInRow(job);
                } else {
                    served[busy] = job;
                    busy++;
                }
            }
        }

        private void putInRow(int job) {
            if (waiting < row.length) {
                row[waiting] = job;
                waiting++;
            }
        }

        private int takeOut(int place) {
            if (place < 0 || place >= waiting) {
                return 0;
            }
            int job = row[place];
            waiting--;
            for (int i = place; i < waiting; i++) {
                row[i] = row[i + 1];
            }
            return job;
        }

        private int placeInRow(int job) {
            int place = 0;
            while (place < waiting && row[place] != job) {
                place++;
            }
            return place;
        }

        private int placeToServe() {
            if (rule == LAST_RULE) {
                return waiting - 1;
            }
            if (rule == LEAST_REST_RULE) {
                return placeOfLeast(rest);
            }
            return rule == LEAST_LENGTH_RULE || rule == LEAST_KIND_RULE ? placeOfLeast(rank) : 0;
        }

        /** Of several, that of the lowest number. */
        private int placeOfLeast(int[] sizes) {
            int best = 0;
            for (int place = 1; place < waiting; place++) {
                int more = sizes[row[place]] - sizes[row[best]];
                if (more < 0 || more == 0 && row[place] < row[best]) {
                    best = place;
                }
            }
            return best;
        }

        int timeOf(Jobs jobs, int job) {
            return left[job] - jobs.part(job, Jobs.TICK);
        }

        int sumOfTimes(Jobs jobs) {
            int sum = 0;
            for (int job = 0; job < jobs.count; job++) {
                sum += timeOf(jobs, job);
            }
            return sum;
        }

        int longestTime(Jobs jobs) {
            int longest = 0;
            for (int job = 0; job < jobs.count; job++) {
                longest = Math.max(longest, timeOf(jobs, job));
            }
            return longest;
        }

        int sumOfNumbers() {
            int sum = 0;
            for (int tick = 0; tick < ticks; tick++) {
                sum += there[tick];
            }
            return sum;
        }
    }

    /** A square of numbers, and its determinant. */
    private static final class Square {
        static final int MOST_SIZE = 6;

        private final long[][] cells = new long[MOST_SIZE][MOST_SIZE];
        private final long[] minors = new long[1 << MOST_SIZE];

        void put(int row, int column, long value) {
            if (row >= 0 && row < MOST_SIZE && column >= 0 && column < MOST_SIZE) {
                cells[row][column] = value;
            }
        }

        /**
         * From the minors of the first rows in each set of columns: without a division, and each of them is at most
         * the product of the sums of the rows, far below the greatest long here.
         */
        long determinant(int size) {
            int used = Math.min(size, MOST_SIZE);
            minors[0] = 1;
            for (int columns = 1; columns < 1 << used; columns++) {
                int row = Integer.bitCount(columns) - 1;
                long sum = 0;
                long sign = 1;
                for (int column = used - 1; column >= 0; column--) {
                    if (isIn(columns, column)) {
                        sum += sign * cells[row][column] * minors[columns ^ 1 << column];
                        sign = -sign;
                    }
                }
                minors[columns] = sum;
            }
            return minors[(1 << used) - 1];
        }
    }

    /** A chain of states, with chances as parts of a base. */
    private static final class Chain {
        static final int MOST_STATES = 7;
        static final int MOST_BASE = 100;

        int count = 1;
        int base = 1;
        // From a state no parts lead to numbers beyond count.
        final int[][] parts = new int[MOST_STATES][MOST_STATES];
        // Sets of states, and of nodes, are numbers with a bit for each: here those that a state leads to, and itself.
        private final int[] leads = new int[MOST_STATES];
        private final long[] trees = new long[MOST_STATES];
        private final Square square = new Square();
        private final Big[] now = new Big[MOST_STATES];
        private final Big[] then = new Big[MOST_STATES];
        private final Big all = new Big();

        Chain() {
            parts[0][0] = 1;
            for (int state = 0; state < MOST_STATES; state++) {
                now[state] = new Big();
                then[state] = new Big();
            }
        }

        void make(int states, int base) {
            count = states;
            this.base = base;
            for (int from = 0; from < MOST_STATES; from++) {
                for (int to = 0; to < MOST_STATES; to++) {
                    parts[from][to] = from == to ? base : 0;
                }
            }
        }

        boolean isLawful() {
            for (int state = 0; state < count; state++) {
                if (sumOf(parts[state]) != base) {
                    return false;
                }
            }
            return true;
        }

        void findLeads() {
            followWays(parts, count, leads);
        }

        private boolean doesLead(int from, int to) {
            return isIn(leads[from], to);
        }

        /** Whether all that a state leads to lead back: then what it leads to is its group. */
        private boolean isInGroup(int state) {
            for (int to = 0; to < count; to++) {
                if (doesLead(state, to) && !doesLead(to, state)) {
                    return false;
                }
            }
            return true;
        }

        private boolean isLeastOfGroup(int state) {
            return isInGroup(state) && (leads[state] & (1 << state) - 1) == 0;
        }

        /** How many groups have their least state below a state. */
        int groupsBelow(int end) {
            int groups = 0;
            for (int state = 0; state < end && state < count; state++) {
                groups += isLeastOfGroup(state) ? 1 : 0;
            }
            return groups;
        }

        int groupNumber(int state) {
            if (!isInGroup(state)) {
                return NONE;
            }
            int least = 0;
            while (least < state && !doesLead(state, least)) {
                least++;
            }
            return groupsBelow(least);
        }

        /**
         * The determinant of base less parts over a set of states: there the right side of the equations takes the
         * place of a state's column, if there is one: the parts to a state, or the base for each step without such.
         */
        private long determinantOver(int members, int replaced, int to) {
            int row = 0;
            for (int from = 0; from < count; from++) {
                if (isIn(members, from)) {
                    int column = 0;
                    for (int other = 0; other < count; other++) {
                        if (isIn(members, other)) {
                            square.put(row, column, other == replaced
                                ? (to == NONE ? base : parts[from][to])
                                : (from == other ? base : 0) - parts[from][other]);
                            column++;
                        }
                    }
                    row++;
                }
            }
            return square.determinant(row);
        }

        /** The long shares of a group are as these minors (the sums over trees); returns their sum. */
        private long growTrees(int group) {
            long sum = 0;
            for (int state = 0; state < count; state++) {
                trees[state] = isIn(group, state) ? determinantOver(group ^ 1 << state, NONE, NONE) : 0;
                sum += trees[state];
            }
            return sum;
        }

        int shareOf(int state, Fraction fraction) {
            if (!isInGroup(state)) {
                return fraction.setLongs(0, 1);
            }
            long sum = growTrees(leads[state]);
            return fraction.setLongs(trees[state], Math.max(sum, 1));
        }

        boolean doSharesStay() {
            findLeads();
            for (int least = 0; least < count; least++) {
                if (isLeastOfGroup(least) && !doSharesStayIn(leads[least])) {
                    return false;
                }
            }
            return true;
        }

        private boolean doSharesStayIn(int group) {
            long sum = growTrees(group);
            long sumThen = 0;
            for (int to = 0; to < count; to++) {
                long comes = 0;
                for (int from = 0; from < count; from++) {
                    comes += trees[from] * parts[from][to];
                }
                if (comes != trees[to] * base) {
                    return false;
                }
                sumThen += trees[to];
            }
            return sum > 0 && sumThen == sum;
        }

        int chanceToReach(int from, int to, Fraction fraction) {
            if (from == to) {
                return fraction.setLongs(1, 1);
            }
            if (!doesLead(from, to)) {
                return fraction.setLongs(0, 1);
            }
            int members = 0;
            for (int state = 0; state < count; state++) {
                if (state != to && doesLead(state, to)) {
                    members |= 1 << state;
                }
            }
            return solve(members, from, to, fraction);
        }

        private int solve(int members, int from, int to, Fraction fraction) {
            long above = determinantOver(members, from, to);
            long below = determinantOver(members, NONE, NONE);
            return fraction.setLongs(Math.max(above, 0), Math.max(below, 1));
        }

        /** The states on the way, which is over in the state to. */
        private int onTheWay(int from, int to) {
            int members = from == to ? 0 : 1 << from;
            for (int round = 0; round < count; round++) {
                for (int state = 0; state < count; state++) {
                    for (int other = 0; other < count && isIn(members, state); other++) {
                        if (other != to && parts[state][other] > 0) {
                            members |= 1 << other;
                        }
                    }
                }
            }
            return members;
        }

        boolean isReachedSurely(int from, int to) {
            int members = onTheWay(from, to);
            for (int state = 0; state < count; state++) {
                if (isIn(members, state) && !doesLead(state, to)) {
                    return false;
                }
            }
            return true;
        }

        int meanStepsTo(int from, int to, Fraction fraction) {
            return from == to ? fraction.setLongs(0, 1) : solve(onTheWay(from, to), from, NONE, fraction);
        }

        int chanceBehind(int from, int to, int steps, Fraction fraction) {
            for (int state = 0; state < count; state++) {
                now[state].setLong(state == from ? 1 : 0);
            }
            all.setLong(1);
            for (int step = 0; step < steps; step++) {
                goStep();
                all.multiply(base);
            }
            return fraction.setBigs(now[to], all);
        }

        private void goStep() {
            for (int to = 0; to < count; to++) {
                then[to].setLong(0);
                for (int from = 0; from < count; from++) {
                    if (parts[from][to] > 0) {
                        then[to].addScaled(now[from], parts[from][to]);
                    }
                }
            }
            for (int state = 0; state < count; state++) {
                now[state].copy(then[state]);
            }
        }
    }

    /** The LOST SHARE, lost by all, server by server, with the load as above by below. */
    private static final class Loss {
        final Big lost = new Big();
        final Big all = new Big();
        private final Big one = new Big();
        private final Big other = new Big();
        private long above;
        private long below;

        void start(int above, int below) {
            long common = Math.max(Fraction.gcd(above, below), 1);
            this.above = above / common;
            this.below = below / common;
            lost.setLong(1);
            all.setLong(1);
        }

        void addServer(int servers) {
            lost.multiply(above);
            all.multiply(servers * below);
            all.addScaled(lost, 1);
        }

        boolean isAtMost(int limitAbove, int limitBelow) {
            one.copy(lost);
            one.multiply(limitBelow);
            other.copy(all);
            other.multiply(limitAbove);
            return one.compareWith(other) <= 0;
        }
    }

    /** Nodes, with ways between them. */
    private static final class Net {
        static final int MOST_NODES = 4;
        static final int MOST_RATE = 1_000;
        static final int MOST_ROUND = 3;

        int count = 1;
        final int[] comings = new int[MOST_NODES];
        final int[] serves = new int[MOST_NODES];
        final int[][] percents = new int[MOST_NODES][MOST_NODES];
        private final int[] leads = new int[MOST_NODES];
        private final Square square = new Square();
        // What comes to the nodes, as the last solving found it: above by below.
        final long[] above = new long[MOST_NODES];
        long below = 1;
        private final long[] loads = new long[MOST_NODES];
        private final Big share = new Big();
        private final Big one = new Big();
        private final Big other = new Big();

        Net() {
            Arrays.fill(serves, 1);
        }

        void make(int nodes) {
            count = nodes;
            Arrays.fill(comings, 0);
            Arrays.fill(serves, 1);
            for (int node = 0; node < MOST_NODES; node++) {
                Arrays.fill(percents[node], 0);
            }
        }

        boolean areRatesThere() {
            followWays(percents, count, leads);
            int exits = 0;
            for (int node = 0; node < count; node++) {
                exits |= sumOf(percents[node]) < 100 ? 1 << node : 0;
            }
            for (int node = 0; node < count; node++) {
                if ((leads[node] & exits) == 0) {
                    return false;
                }
            }
            return true;
        }

        boolean isWithoutOutside() {
            followWays(percents, count, leads);
            for (int node = 0; node < count; node++) {
                if (comings[node] != 0 || sumOf(percents[node]) != 100 || leads[node] != (1 << count) - 1) {
                    return false;
                }
            }
            return true;
        }

        /** Solves what comes to the nodes, if those of a set are full: they pass on their service rates. */
        void solve(int full) {
            below = Math.max(determinantWith(full, NONE), 1);
            for (int node = 0; node < count; node++) {
                above[node] = determinantWith(full, node);
            }
        }

        private long determinantWith(int full, int replaced) {
            for (int row = 0; row < count; row++) {
                for (int column = 0; column < count; column++) {
                    long passed = isIn(full, column) ? 0 : percents[column][row];
                    square.put(row, column, column == replaced
                        ? knownComings(row, full) : (row == column ? 100 : 0) - passed);
                }
            }
            return square.determinant(count);
        }

        private long knownComings(int node, int full) {
            long sum = 100L * comings[node];
            for (int from = 0; from < count; from++) {
                if (isIn(full, from)) {
                    sum += (long) serves[from] * percents[from][node];
                }
            }
            return sum;
        }

        boolean isBelowService(int node) {
            return above[node] < serves[node] * below;
        }

        /**
         * At first all nodes count as full: then more seems to come to each than really comes, so that one to which
         * even so no more comes than it serves is not full. Each round finds one or is the last.
         */
        void solveGrowth() {
            int full = (1 << count) - 1;
            for (int round = 0; round <= count; round++) {
                solve(full);
                int still = full;
                for (int node = 0; node < count; node++) {
                    if (above[node] <= serves[node] * below) {
                        still &= ~(1 << node);
                    }
                }
                if (still == full) {
                    return;
                }
                full = still;
            }
        }

        int meanNumber(int node, Fraction fraction) {
            return fraction.setLongs(above[node], Math.max(serves[node] * below - above[node], 1));
        }

        /** Without a common divisor of the load's numbers these two have none either. */
        int chanceOf(int node, int many, Fraction fraction) {
            long down = serves[node] * below;
            long common = Math.max(Fraction.gcd(above[node], down), 1);
            long up = above[node] / common;
            down /= common;
            one.setLong(down - up);
            other.setLong(down);
            for (int time = 0; time < many; time++) {
                one.multiply(up);
                other.multiply(down);
            }
            return fraction.setBigs(one, other);
        }

        /**
         * The rates by the service rates, all of them times the same number, which leaves the shares as they are:
         * they are whole then. The rates are as the minors of 100 less percents, each without its node.
         */
        private void findLoads() {
            long common = 0;
            for (int node = 0; node < count; node++) {
                long load = minorWithout(node);
                for (int with = 0; with < count; with++) {
                    load *= with == node ? 1 : serves[with];
                }
                loads[node] = load;
                common = Fraction.gcd(load, common);
            }
            for (int node = 0; node < count && common > 1; node++) {
                loads[node] /= common;
            }
        }

        private long minorWithout(int node) {
            int row = 0;
            for (int from = 0; from < count; from++) {
                int column = 0;
                for (int to = 0; to < count && from != node; to++) {
                    if (to != node) {
                        square.put(row, column, (from == to ? 100 : 0) - percents[from][to]);
                        column++;
                    }
                }
                row += from == node ? 0 : 1;
            }
            return square.determinant(row);
        }

        /** A state of a closed net is a number with two bits for each node: how many jobs are there. */
        private static int jobsAt(int state, int node) {
            return state >> 2 * node & 3;
        }

        private int jobsIn(int state) {
            int jobs = 0;
            for (int node = 0; node < count; node++) {
                jobs += jobsAt(state, node);
            }
            return jobs;
        }

        /** Not divided by the sum over all states. */
        private void findShare(int state) {
            share.setLong(1);
            for (int node = 0; node < count; node++) {
                for (int job = 0; job < jobsAt(state, node); job++) {
                    share.multiply(loads[node]);
                }
            }
        }

        int meanInRound(int jobs, int node, Fraction fraction) {
            findLoads();
            one.setLong(0);
            other.setLong(0);
            for (int state = 0; state < 1 << 2 * count; state++) {
                if (jobsIn(state) == jobs) {
                    findShare(state);
                    one.addScaled(share, jobsAt(state, node));
                    other.addScaled(share, 1);
                }
            }
            return fraction.setBigs(one, other);
        }

        boolean doSharesStay() {
            findLoads();
            for (int state = 0; state < 1 << 2 * count; state++) {
                if (jobsIn(state) == 2 && !doesShareStay(state)) {
                    return false;
                }
            }
            return true;
        }

        private boolean doesShareStay(int state) {
            long leaves = 0;
            other.setLong(0);
            for (int to = 0; to < count; to++) {
                if (jobsAt(state, to) > 0) {
                    leaves += 100L * serves[to];
                    for (int from = 0; from < count; from++) {
                        findShare(state - (1 << 2 * to) + (1 << 2 * from));
                        other.addScaled(share, (long) serves[from] * percents[from][to]);
                    }
                }
            }
            findShare(state);
            one.setLong(0);
            one.addScaled(share, leaves);
            return one.compareWith(other) == 0;
        }
    }

    /** The envelope, and the row of servers behind it. */
    private static final class Envelope {
        static final int MOST_BURST = 999;
        static final int MOST_RATE = 99;
        static final int MOST_IN_ROW = 4;

        int burst;
        int above;
        int below = 1;
        int servers;
        private int latencies;
        private int leastAbove;
        private int leastBelow = 1;

        void set(int burst, int above, int below) {
            this.burst = burst;
            this.above = above;
            this.below = below;
            servers = 0;
            latencies = 0;
        }

        void addServer(int latency, int above, int below) {
            if (servers == 0 || above * leastBelow < leastAbove * below) {
                leastAbove = above;
                leastBelow = below;
            }
            latencies += latency;
            servers++;
        }

        boolean isBounded() {
            return servers > 0 && above * leastBelow <= leastAbove * below;
        }

        int delayBound(Fraction fraction) {
            return fraction.setLongs((long) latencies * leastAbove + (long) burst * leastBelow,
                Math.max(leastAbove, 1));
        }

        int bufferBound(Fraction fraction) {
            return fraction.setLongs((long) burst * below + (long) above * latencies, Math.max(below, 1));
        }

        /** Spans from a job to a job are enough: a longer one with the same jobs in it allows more. */
        boolean holds(Jobs jobs) {
            for (int first = 0; first < jobs.count; first++) {
                long lengths = 0;
                for (int last = first; last < jobs.count; last++) {
                    lengths += jobs.part(last, Jobs.LENGTH);
                    long span = jobs.part(last, Jobs.TICK) - jobs.part(first, Jobs.TICK);
                    if ((lengths - burst) * below > span * above) {
                        return false;
                    }
                }
            }
            return true;
        }
    }

    /** Lines to choose from, and how many players chose each. */
    private static final class Game {
        static final int LINES = 3;
        static final int MOST_CONSTANT = 999;
        static final int MOST_SLOPE = 99;

        final int[] constants = new int[LINES];
        final int[] slopes = new int[LINES];
        final int[] chosen = new int[LINES];

        private int payIn(int line, int players) {
            return constants[line] + players * slopes[line];
        }

        void choose(int players, boolean isBest) {
            Arrays.fill(chosen, 0);
            for (int player = 0; player < players; player++) {
                int best = 0;
                for (int line = 1; line < LINES; line++) {
                    if (costOfOneMore(line, isBest) < costOfOneMore(best, isBest)) {
                        best = line;
                    }
                }
                chosen[best]++;
            }
        }

        /** For the player alone, or for all together. */
        private int costOfOneMore(int line, boolean isForAll) {
            int own = payIn(line, chosen[line] + 1);
            return isForAll ? own + chosen[line] * slopes[line] : own;
        }

        long sumOfPays() {
            long sum = 0;
            for (int line = 0; line < LINES; line++) {
                sum += (long) chosen[line] * payIn(line, chosen[line]);
            }
            return sum;
        }

        boolean isNobodyBetterOff() {
            for (int line = 0; line < LINES; line++) {
                for (int other = 0; other < LINES; other++) {
                    if (chosen[line] > 0 && other != line
                        && payIn(other, chosen[other] + 1) < payIn(line, chosen[line])) {
                        return false;
                    }
                }
            }
            return true;
        }
    }
}
