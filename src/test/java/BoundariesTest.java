import java.util.ArrayList;
import java.util.List;
import java.util.Objects;

/**
 * Promises 2 to 40, call by call: for each number that a call is given the last values that are taken and the first
 * ones that are refused, on both sides; of several wrong things the exception that is listed first; and that a call
 * that throws changes nothing: all that can be asked is as on a twin that was not called.
 */
public final class BoundariesTest {
    private static final Check CHECK = new Check("BoundariesTest");
    private static final int MOST_CALLS = 512;
    // A prepared object has had fewer calls than this.
    private static final int MOST_PREPARING = 130;

    /** A call with its numbers. */
    private interface Numbered {
        Object of(Queueward x, int[] numbers);
    }

    /** A call without numbers, or with its own ones. */
    private interface Plain {
        Object of(Queueward x);
    }

    /** What is told to a new object ahead of the call. */
    private interface Setup {
        void tell(Queueward x);
    }

    /** A number of a call: its bounds, a right value, and the exception beyond the bounds. */
    private record Given(String name, int least, int most, int right, Class<?> beyond) {
    }

    private static Given index(String name, int most, int right) {
        return new Given(name, 0, most, right, Check.INDEX);
    }

    private static Given argument(String name, int least, int most, int right) {
        return new Given(name, least, most, right, Check.ARGUMENT);
    }

    /** The calls of a promise, on objects that are prepared so that the right numbers are taken. */
    private static final class Row {
        final int promise;
        final String name;
        final Setup setup;
        final Numbered call;
        final Given[] numbers;

        Row(int promise, String name, Setup setup, Numbered call, Given... numbers) {
            this.promise = promise;
            this.name = name;
            this.setup = setup;
            this.call = call;
            this.numbers = numbers;
        }

        int[] rightNumbers() {
            int[] right = new int[numbers.length];
            for (int i = 0; i < right.length; i++) {
                right[i] = numbers[i].right;
            }
            return right;
        }

        Queueward prepared() {
            Queueward x = new Queueward();
            setup.tell(x);
            return x;
        }
    }

    public static void main(String[] args) {
        twins();
        askingChangesNothing();
        comingToFractions();
        for (Row row : rows()) {
            CHECK.promise(row.promise);
            takesItsBounds(row);
            refusesBeyond(row);
            refusesTwo(row);
        }
        brokenLines();
        brokenChains();
        brokenNets();
        brokenOthers();
        refusedOnTheTape();
        refusedSums();
        CHECK.end();
    }

    // ---- the rows

    private static List<Row> rows() {
        List<Row> rows = new ArrayList<>();
        addLines(rows);
        addChains(rows);
        addNets(rows);
        addOthers(rows);
        return rows;
    }

    private static void addLines(List<Row> rows) {
        rows.add(new Row(6, "signAt", BoundariesTest::rich, (x, n) -> x.signAt(n[0]), index("index", 12, 3)));
        rows.add(comeRow());
        rows.add(new Row(12, "line", BoundariesTest::rich, (x, n) -> x.line(n[0], n[1], n[2], n[3]),
            argument("servers", 1, 4, 2), argument("rule", 0, 5, 1),
            argument("room", 0, 24, 3), argument("patience", 1, 999, 7)));
        rows.add(new Row(13, "jobAt", BoundariesTest::rich, (x, n) -> x.jobAt(n[0], n[1]),
            index("job", 3, 1), argument("what", 0, 7, 2)));
        rows.add(new Row(15, "meanTime", BoundariesTest::rich, (x, n) -> x.meanTime(n[0]),
            argument("kind", -1, 2, 1)));
    }

    private static Row comeRow() {
        return new Row(9, "come", BoundariesTest::withoutJobs, (x, n) -> x.come(n[0], n[1], n[2], n[3]),
            argument("tick", 0, 500, 7), argument("length", 1, 40, 3),
            argument("kind", 0, 2, 1), argument("weight", 1, 9, 4));
    }

    private static void addChains(List<Row> rows) {
        rows.add(new Row(17, "states", BoundariesTest::rich, (x, n) -> x.states(n[0], n[1]),
            argument("states", 1, 7, 3), argument("base", 1, 100, 9)));
        rows.add(new Row(18, "chance", BoundariesTest::rich, (x, n) -> x.chance(n[0], n[1], n[2]),
            index("from", 2, 1), index("to", 2, 0), argument("parts", 0, 10, 4)));
        rows.addAll(askingChains());
    }

    /** Those that an unlawful chain refuses. */
    private static List<Row> askingChains() {
        return List.of(
            new Row(19, "group", BoundariesTest::rich, (x, n) -> x.group(n[0]),
                new Given("state", -1, 2, 1, Check.INDEX)),
            new Row(20, "longShare", BoundariesTest::rich, (x, n) -> x.longShare(n[0]), index("state", 2, 1)),
            new Row(21, "reach", BoundariesTest::rich, (x, n) -> x.reach(n[0], n[1]),
                index("from", 2, 1), index("to", 2, 2)),
            new Row(22, "timeTo", BoundariesTest::rich, (x, n) -> x.timeTo(n[0], n[1]),
                index("from", 2, 1), index("to", 2, 2)),
            new Row(23, "behind", BoundariesTest::rich, (x, n) -> x.behind(n[0], n[1], n[2]),
                index("from", 2, 1), index("to", 2, 2), argument("steps", 0, 60, 5)));
    }

    private static void addNets(List<Row> rows) {
        rows.add(new Row(26, "net", BoundariesTest::rich, (x, n) -> x.net(n[0]), argument("nodes", 1, 4, 2)));
        rows.add(new Row(27, "node", BoundariesTest::rich, (x, n) -> x.node(n[0], n[1], n[2]),
            index("node", 2, 1), argument("come", 0, 1000, 5), argument("serves", 1, 1000, 6)));
        rows.add(new Row(28, "way", BoundariesTest::rich, (x, n) -> x.way(n[0], n[1], n[2]),
            index("from", 2, 2), index("to", 2, 1), argument("percent", 0, 100, 4)));
        rows.addAll(askingRates());
        rows.add(closedRow());
    }

    /** Those that a net refuses whose rates are not there. */
    private static List<Row> askingRates() {
        return List.of(
            new Row(29, "rate", BoundariesTest::rich, (x, n) -> x.rate(n[0]), index("node", 2, 1)),
            new Row(30, "isStable", BoundariesTest::rich, (x, n) -> x.isStable(n[0]), index("node", 2, 1)),
            new Row(31, "numbers", BoundariesTest::rich, (x, n) -> x.numbers(n[0], n[1]),
                index("node", 2, 1), argument("many", -1, 9, 3)),
            new Row(32, "growth", BoundariesTest::rich, (x, n) -> x.growth(n[0]), index("node", 2, 1)));
    }

    private static Row closedRow() {
        return new Row(33, "closed", BoundariesTest::withClosedNet, (x, n) -> x.closed(n[0], n[1]),
            argument("jobs", 1, 3, 2), index("node", 2, 1));
    }

    private static void addOthers(List<Row> rows) {
        rows.add(new Row(24, "lostShare", BoundariesTest::rich, (x, n) -> x.lostShare(n[0], n[1], n[2]),
            argument("servers", 0, 30, 3), argument("above", 0, 999, 5), argument("below", 1, 999, 7)));
        rows.add(serversForRow());
        rows.add(new Row(34, "envelope", BoundariesTest::rich, (x, n) -> x.envelope(n[0], n[1], n[2]),
            argument("burst", 0, 999, 5), argument("above", 0, 99, 3), argument("below", 1, 99, 4)));
        rows.add(serverRow());
        rows.add(new Row(38, "option", BoundariesTest::rich, (x, n) -> x.option(n[0], n[1], n[2]),
            argument("line", 0, 2, 1), argument("constant", 0, 999, 3), argument("slope", 0, 99, 4)));
        rows.add(new Row(39, "split", BoundariesTest::rich, (x, n) -> x.split(n[0], n[1], false),
            argument("players", 1, 30, 5), argument("line", 0, 2, 1)));
        rows.add(new Row(39, "best split", BoundariesTest::rich, (x, n) -> x.split(n[0], n[1], true),
            argument("players", 1, 30, 5), argument("line", 0, 2, 1)));
        rows.add(new Row(40, "price", BoundariesTest::rich, (x, n) -> x.price(n[0]),
            argument("players", 1, 30, 5)));
    }

    private static Row serversForRow() {
        return new Row(25, "serversFor", BoundariesTest::rich, (x, n) -> x.serversFor(n[0], n[1], n[2], n[3]),
            argument("above", 0, 999, 0), argument("below", 1, 999, 7),
            argument("limitAbove", 0, 999, 5), argument("limitBelow", 1, 999, 5));
    }

    private static Row serverRow() {
        return new Row(35, "server", BoundariesTest::rich, (x, n) -> x.server(n[0], n[1], n[2]),
            argument("latency", 0, 99, 5), argument("above", 1, 99, 3), argument("below", 1, 99, 4));
    }

    // ---- what is told to the objects

    /** Something of everything: each part of it can be seen to change. */
    private static void rich(Queueward x) {
        x.come(400, 9, 0, 1);
        x.clear();
        x.come(1, 6, 0, 2);
        x.come(2, 2, 1, 9);
        x.come(2, 1, 2, 4);
        x.come(5, 4, 1, 1);
        withoutJobs(x);
    }

    private static void withoutJobs(Queueward x) {
        x.line(1, 0, 2, 4);
        x.states(3, 10);
        tellChain(x, new int[][] {{2, 5, 3}, {1, 0, 9}, {0, 4, 6}});
        x.net(3);
        tellNet(x, new int[][] {{2, 9, 0, 50, 20}, {1, 8, 30, 10, 20}, {0, 7, 0, 0, 0}});
        x.envelope(9, 1, 2);
        x.server(3, 4, 5);
        x.server(2, 3, 4);
        x.option(0, 8, 1);
        x.option(1, 2, 3);
        x.option(2, 5, 2);
        x.lostShare(3, 2, 1);
        Check.typeText(x, "at 7 takes 2;");
    }

    private static void tellChain(Queueward x, int[][] rows) {
        for (int from = 0; from < rows.length; from++) {
            for (int to = 0; to < rows.length; to++) {
                x.chance(from, to, rows[from][to]);
            }
        }
    }

    /** Comings, service rate, percents. */
    private static void tellNet(Queueward x, int[][] rows) {
        for (int node = 0; node < rows.length; node++) {
            x.node(node, rows[node][0], rows[node][1]);
            for (int to = 0; to < rows.length; to++) {
                x.way(node, to, rows[node][2 + to]);
            }
        }
    }

    private static void withClosedNet(Queueward x) {
        rich(x);
        x.net(3);
        tellNet(x, new int[][] {{0, 9, 0, 80, 20}, {0, 8, 30, 10, 60}, {0, 7, 100, 0, 0}});
    }

    // ---- what is due

    /** Twins answer the same, and what all refusals rest on: each change is seen by asking everything. */
    private static void twins() {
        Setup[] changes = {x -> { }, x -> x.price(9), x -> x.type(32), x -> x.wipe(), Queueward::read, Queueward::clear,
            x -> x.come(5, 4, 1, 1), Queueward::undo, x -> x.line(2, 0, 2, 4), x -> x.line(1, 4, 2, 4),
            x -> x.line(1, 0, 1, 4), x -> x.line(1, 0, 2, 9),            x -> x.chance(1, 0, 2), x -> x.states(3, 10), x -> x.net(3), x -> x.node(1, 2, 8), x -> x.node(1, 1, 9),
            x -> x.way(2, 0, 1), x -> x.envelope(9, 1, 2), x -> x.server(0, 99, 1), x -> x.option(2, 6, 2),
            x -> x.option(2, 5, 3)};
        List<Object> untouched = after(BoundariesTest::rich, changes[0]);
        CHECK.due("calls of asking everything are not too many", true,
            () -> untouched.size() + MOST_PREPARING < MOST_CALLS);
        CHECK.due("twins answer the same", untouched, () -> after(BoundariesTest::rich, changes[0]));
        for (int i = 1; i < changes.length; i++) {
            Setup change = changes[i];
            CHECK.due("change " + i + " is seen", false,
                () -> untouched.equals(after(BoundariesTest::rich, change)));
        }
    }

    private static void askingChangesNothing() {
        Plain[] calls = {x -> x.result(false), x -> x.result(true), x -> x.type(0), x -> x.signAt(0), Queueward::fault,
            x -> x.jobAt(3, 1), x -> x.numberAt(3), x -> x.sumTimes(false), x -> x.sumTimes(true),
            x -> x.group(Queueward.NONE), x -> x.group(1), x -> x.serversFor(2, 1, 1, 9), x -> x.isStable(0),
            Queueward::fits, x -> x.split(3, 1, false), x -> x.split(3, 1, true), Queueward::mean, Queueward::doneShare,
            Queueward::errors};
        int[] promises = {2, 2, 4, 6, 7, 13, 14, 16, 16, 19, 19, 25, 30, 37, 39, 39, 41, 42, 43};
        List<Object> untouched = after(BoundariesTest::rich, x -> { });
        for (int i = 0; i < calls.length; i++) {
            CHECK.promise(promises[i]);
            Plain call = calls[i];
            List<Object> got = after(BoundariesTest::rich, x -> call.of(x));
            CHECK.due("a call that only answers changes nothing", -1, () -> firstDifference(got, untouched));
        }
    }

    /** They change the RESULT alone, whose two numbers are the first answers. */
    private static void comingToFractions() {
        Plain[] calls = {x -> x.meanTime(1), x -> x.longShare(1), x -> x.reach(2, 1), x -> x.timeTo(1, 2),
            x -> x.behind(1, 2, 9), x -> x.lostShare(2, 2, 1), x -> x.rate(1), x -> x.numbers(1, -1),
            x -> x.numbers(1, 2), x -> x.growth(0), x -> x.bound(false), x -> x.bound(true), x -> x.price(5)};
        int[] promises = {15, 20, 21, 22, 23, 24, 29, 31, 31, 32, 36, 36, 40};
        List<Object> untouched = after(BoundariesTest::rich, x -> { });
        for (int i = 0; i < calls.length; i++) {
            CHECK.promise(promises[i]);
            Plain call = calls[i];
            List<Object> got = after(BoundariesTest::rich, x -> call.of(x));
            CHECK.due("another RESULT", false, () -> got.subList(0, 2).equals(untouched.subList(0, 2)));
            CHECK.due("nothing else changes", -1,
                () -> firstDifference(got.subList(2, got.size()), untouched.subList(2, got.size())));
        }
        CHECK.promise(33);
        List<Object> got = after(BoundariesTest::withClosedNet, x -> x.closed(3, 0));
        List<Object> due = after(BoundariesTest::withClosedNet, x -> { });
        CHECK.due("another RESULT", false, () -> got.subList(0, 2).equals(due.subList(0, 2)));
        CHECK.due("nothing else changes", -1,
            () -> firstDifference(got.subList(2, got.size()), due.subList(2, due.size())));
    }

    private static List<Object> after(Setup setup, Setup change) {
        Queueward x = new Queueward();
        setup.tell(x);
        change.tell(x);
        return Everything.of(x);
    }

    private static void takesItsBounds(Row row) {
        for (int i = 0; i < row.numbers.length; i++) {
            for (int value : new int[] {row.numbers[i].least, row.numbers[i].most}) {
                int[] numbers = row.rightNumbers();
                numbers[i] = value;
                Object got = Check.answerOf(() -> row.call.of(row.prepared(), numbers));
                CHECK.due(row.name + " takes " + row.numbers[i].name + " " + value + ", but " + got, false,
                    () -> got instanceof Class);
            }
        }
    }

    private static int[] beyond(Given number) {
        return new int[] {number.least - 1, number.most + 1, Integer.MIN_VALUE, Integer.MAX_VALUE};
    }

    private static void refusesBeyond(Row row) {
        for (int i = 0; i < row.numbers.length; i++) {
            for (int value : beyond(row.numbers[i])) {
                int[] numbers = row.rightNumbers();
                numbers[i] = value;
                refuses(row.name + " with " + row.numbers[i].name + " " + value, row.numbers[i].beyond, row.setup,
                    x -> row.call.of(x, numbers));
            }
        }
    }

    /** No call lists IndexOutOfBoundsException behind IllegalArgumentException, or one of these behind others. */
    private static Class<?> firstListed(Class<?> one, Class<?> other) {
        return one == Check.INDEX || other == Check.INDEX ? Check.INDEX : Check.ARGUMENT;
    }

    private static void refusesTwo(Row row) {
        for (int i = 0; i < row.numbers.length; i++) {
            for (int j = i + 1; j < row.numbers.length; j++) {
                int[] numbers = row.rightNumbers();
                numbers[i] = row.numbers[i].most + 1;
                numbers[j] = row.numbers[j].least - 1;
                refuses(row.name + " with two wrong numbers", firstListed(row.numbers[i].beyond, row.numbers[j].beyond),
                    row.setup, x -> row.call.of(x, numbers));
            }
        }
    }

    /** The call throws just this, and all stays. */
    private static void refuses(String what, Class<?> want, Setup setup, Plain call) {
        Queueward x = new Queueward();
        setup.tell(x);
        CHECK.due(what, want, () -> call.of(x));
        List<Object> got = Everything.of(x);
        List<Object> due = after(setup, y -> { });
        CHECK.due(what + " changes nothing", -1, () -> firstDifference(got, due));
    }

    private static int firstDifference(List<Object> got, List<Object> due) {
        for (int i = 0; i < Math.max(got.size(), due.size()); i++) {
            if (i >= got.size() || i >= due.size() || !Objects.equals(got.get(i), due.get(i))) {
                return i;
            }
        }
        return -1;
    }

    /** The right numbers are refused by what was told before; a wrong number comes first even then. */
    private static void refusesBecause(Row row, String why, Class<?> want, Setup broken) {
        CHECK.promise(row.promise);
        Setup setup = x -> {
            row.setup.tell(x);
            broken.tell(x);
        };
        refuses(row.name + ", " + why, want, setup, x -> row.call.of(x, row.rightNumbers()));
        for (int i = 0; i < row.numbers.length; i++) {
            int[] numbers = row.rightNumbers();
            numbers[i] = row.numbers[i].most + 1;
            refuses(row.name + ", " + why + ", and a wrong number", row.numbers[i].beyond, setup,
                x -> row.call.of(x, numbers));
        }
    }

    // ---- refused by what was told before

    private static void brokenLines() {
        refusesBecause(comeRow(), "earlier than the latest told one", Check.STATE, x -> x.come(8, 1, 0, 1));
        refusesBecause(comeRow(), "24 jobs", Check.STATE, x -> {
            for (int job = 0; job < 24; job++) {
                x.come(7, 1 + job, job % 3, 1);
            }
        });
        CHECK.promise(9);
        Queueward x = new Queueward();
        for (int job = 0; job < 23; job++) {
            x.come(7, 1, 0, 1);
        }
        CHECK.due("the 24th job", 23, () -> x.come(7, 1, 0, 1));
        CHECK.promise(11);
        refuses("undo without a change", Check.NO_SUCH, BoundariesTest::withoutJobs, Queueward::undo);
        refuses("undo of what is undone", Check.NO_SUCH, y -> {
            rich(y);
            for (int change = 0; change < 6; change++) {
                y.undo();
            }
        }, Queueward::undo);
    }

    private static void brokenChains() {
        for (Row row : askingChains()) {
            refusesBecause(row, "a sum of parts just below the base", Check.NO_SUCH, x -> x.chance(2, 1, 3));
            refusesBecause(row, "a sum of parts just above the base", Check.NO_SUCH, x -> x.chance(0, 1, 6));
            refusesBecause(row, "two sums that even out", Check.NO_SUCH, x -> {
                x.chance(0, 1, 6);
                x.chance(1, 2, 8);
            });
        }
        CHECK.promise(22);
        refuses("timeTo what is not reached", Check.NO_SUCH, x -> {
            rich(x);
            tellChain(x, new int[][] {{10, 0, 0}, {1, 0, 9}, {0, 0, 10}});
        }, x -> x.timeTo(0, 2));
        refuses("timeTo what is not reached surely", Check.NO_SUCH, x -> {
            rich(x);
            tellChain(x, new int[][] {{10, 0, 0}, {1, 0, 9}, {0, 0, 10}});
        }, x -> x.timeTo(1, 2));
    }

    private static void brokenNets() {
        for (Row row : askingRates()) {
            refusesBecause(row, "a node that keeps all", Check.NO_SUCH, x -> x.way(2, 2, 100));
            refusesBecause(row, "two that keep all", Check.NO_SUCH, x -> {
                x.way(0, 1, 80);
                x.way(1, 1, 50);
                x.way(2, 0, 100);
            });
        }
        refusesBecause(askingRates().get(2), "not stable, by just the service rate", Check.NO_SUCH, x -> {
            x.way(0, 1, 0);
            x.way(1, 1, 0);
            x.node(1, 8, 8);
        });
        refusesBecause(closedRow(), "comings", Check.STATE, x -> x.node(2, 1, 7));
        refusesBecause(closedRow(), "some leave", Check.STATE, x -> x.way(2, 0, 99));
        refusesBecause(closedRow(), "no way back", Check.STATE, x -> {
            x.way(2, 0, 0);
            x.way(2, 2, 100);
        });
    }

    private static void brokenOthers() {
        CHECK.promise(2);
        refuses("result above the longs", Check.ARITHMETIC, BoundariesTest::withGreatResult, x -> x.result(false));
        refuses("result above the longs, below the line", Check.ARITHMETIC, BoundariesTest::withGreatResult,
            x -> x.result(true));
        CHECK.promise(25);
        refuses("serversFor, 30 are not enough", Check.NO_SUCH, BoundariesTest::rich, x -> x.serversFor(22, 1, 20, 999));
        refuses("serversFor, without a limit", Check.NO_SUCH, BoundariesTest::rich, x -> x.serversFor(1, 999, 0, 1));
        refuses("serversFor, not enough, and a wrong number", Check.ARGUMENT, BoundariesTest::rich,
            x -> x.serversFor(22, 1, 20, 1000));
        refusesBecause(serverRow(), "4 servers", Check.STATE, x -> {
            x.server(1, 1, 1);
            x.server(1, 1, 1);
        });
        CHECK.promise(36);
        for (boolean isBuffer : new boolean[] {false, true}) {
            refuses("bound without a server", Check.NO_SUCH, x -> {
                rich(x);
                x.envelope(9, 1, 2);
            }, x -> x.bound(isBuffer));
            refuses("bound of a rate just above the least one", Check.NO_SUCH, x -> {
                rich(x);
                x.server(1, 48, 97);
            }, x -> x.bound(isBuffer));
        }
    }

    private static void withGreatResult(Queueward x) {
        rich(x);
        x.lostShare(30, 998, 999);
    }

    private static void refusedOnTheTape() {
        CHECK.promise(4);
        for (int shift = 0; shift < 64; shift += 8) {
            for (long wrong : new long[] {1, 31, 127, 128, 255}) {
                long signs = 0x4142434445464748L & ~(255L << shift) | wrong << shift;
                refuses("type with a byte " + wrong, Check.ARGUMENT, BoundariesTest::rich, x -> x.type(signs));
            }
        }
        refuses("type of a 901st sign", Check.STATE, x -> typeSigns(x, 900), x -> x.type(65));
        refuses("type of two more, where one fits", Check.STATE, x -> typeSigns(x, 899), x -> x.type(0x4100000000000042L));
        refuses("type of eight more, where seven fit", Check.STATE, x -> typeSigns(x, 893),
            x -> x.type(0x4142434445464748L));
        refuses("type of a 901st sign with a wrong byte", Check.ARGUMENT, x -> typeSigns(x, 900), x -> x.type(0x411FL));
        refuses("signAt behind the 900th", Check.INDEX, x -> typeSigns(x, 900), x -> x.signAt(900));
        CHECK.due("the 900th sign", 900, () -> typeSigns(new Queueward(), 900));
        CHECK.promise(8);
        refusedReadings();
    }

    private static int typeSigns(Queueward x, int count) {
        for (int typed = 0; typed + 8 <= count; typed += 8) {
            x.type(0x617A303920217E3BL);
        }
        for (int more = 0; more < count % 8; more++) {
            x.type(61 + more);
        }
        return x.type(0);
    }

    private static void refusedReadings() {
        String[] wrong = {"at 7 takes 2", "at 501 takes 2;", "at 7 takes 41;", "at 7 takes 0;", "at 7 takes 2 kind 3;",
            "at 7 takes 2 weighs 0;", "at 7 takes 2 weighs 10;", "at 7 takes 2;x", "at 7 takes 2; at 6 takes 0;"};
        for (String text : wrong) {
            refuses("read of " + text, Check.ARGUMENT, withTape(text), Queueward::read);
        }
        refuses("read of an earlier one", Check.STATE, withTape("at 4 takes 2;"), Queueward::read);
        refuses("read of an earlier one behind a later one", Check.STATE, withTape("at 9 takes 2; at 8 takes 2;"),
            Queueward::read);
        String many = "at 7 takes 2;".repeat(20);
        refuses("read of 21 behind 4", Check.STATE, withTape(many + "at 7 takes 2;"), Queueward::read);
        CHECK.due("read of 20 behind 4", 24, () -> {
            Queueward x = new Queueward();
            withTape(many).tell(x);
            return x.read();
        });
    }

    private static Setup withTape(String text) {
        return x -> {
            rich(x);
            x.wipe();
            Check.typeText(x, text);
        };
    }

    private static void refusedSums() {
        CHECK.promise(28);
        refuses("way that makes the sum 101", Check.ARGUMENT, BoundariesTest::rich, x -> x.way(0, 0, 31));
        refuses("way that makes the sum 101, set anew", Check.ARGUMENT, BoundariesTest::rich, x -> x.way(0, 1, 81));
        refuses("way that makes the sum 150", Check.ARGUMENT, BoundariesTest::rich, x -> x.way(1, 1, 100));
        CHECK.due("way that makes the sum 100", 100, () -> {
            Queueward x = new Queueward();
            rich(x);
            return x.way(0, 0, 30);
        });
        CHECK.due("way that makes the sum 100, set anew", 100, () -> {
            Queueward x = new Queueward();
            rich(x);
            return x.way(0, 1, 80);
        });
    }
}
