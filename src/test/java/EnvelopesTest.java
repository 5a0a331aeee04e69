/** Promises 34 to 37: envelopes of comings and service. */
public final class EnvelopesTest {
    private static final Check CHECK = new Check("EnvelopesTest");

    public static void main(String[] args) {
        envelopes();
        servers();
        bounds();
        boundsThatAreNotThere();
        fitting();
        fittingAtManyTicks();
        CHECK.end();
    }

    private static void envelopes() {
        CHECK.promise(34);
        Queueward x = new Queueward();
        CHECK.due("servers before", 0, () -> x.envelope(999, 99, 99));
        x.server(1, 1, 1);
        x.server(2, 3, 1);
        CHECK.due("burst -1", Check.ARGUMENT, () -> x.envelope(-1, 1, 1));
        CHECK.due("burst 1000", Check.ARGUMENT, () -> x.envelope(1000, 1, 1));
        CHECK.due("above -1", Check.ARGUMENT, () -> x.envelope(1, -1, 1));
        CHECK.due("above 100", Check.ARGUMENT, () -> x.envelope(1, 100, 1));
        CHECK.due("below 0", Check.ARGUMENT, () -> x.envelope(1, 1, 0));
        CHECK.due("below 100", Check.ARGUMENT, () -> x.envelope(1, 1, 100));
        CHECK.dueFraction("all stays", x, 1002, 1, () -> x.bound(true));
        CHECK.due("servers before", 2, () -> x.envelope(7, 0, 1));
        CHECK.due("no servers then", Check.NO_SUCH, () -> x.bound(true));
        CHECK.due("the first one", 1, () -> x.server(5, 1, 2));
        CHECK.dueFraction("without the latencies ahead", x, 19, 1, () -> x.bound(false));
        CHECK.dueFraction("the new burst, and the rate 0", x, 7, 1, () -> x.bound(true));
        CHECK.due("servers before", 1, () -> x.envelope(7, 2, 99));
        CHECK.due("none then", 0, () -> x.envelope(7, 99, 1));
        x.server(10, 99, 1);
        CHECK.dueFraction("the new rate", x, 997, 1, () -> x.bound(true));
    }

    private static void servers() {
        CHECK.promise(35);
        Queueward x = new Queueward();
        x.envelope(10, 1, 99);
        CHECK.due("latency -1", Check.ARGUMENT, () -> x.server(-1, 1, 1));
        CHECK.due("latency 100", Check.ARGUMENT, () -> x.server(100, 1, 1));
        CHECK.due("above 0", Check.ARGUMENT, () -> x.server(0, 0, 1));
        CHECK.due("above 100", Check.ARGUMENT, () -> x.server(0, 100, 1));
        CHECK.due("below 0", Check.ARGUMENT, () -> x.server(0, 1, 0));
        CHECK.due("below 100", Check.ARGUMENT, () -> x.server(0, 1, 100));
        CHECK.due("none yet", Check.NO_SUCH, () -> x.bound(false));
        CHECK.due("one", 1, () -> x.server(99, 99, 1));
        CHECK.due("two", 2, () -> x.server(0, 1, 99));
        CHECK.due("three", 3, () -> x.server(1, 2, 3));
        CHECK.due("four", 4, () -> x.server(1, 4, 5));
        CHECK.due("not five", Check.STATE, () -> x.server(1, 4, 5));
        CHECK.due("not five, and out of range", Check.ARGUMENT, () -> x.server(1, 0, 5));
        CHECK.dueFraction("four still", x, 101 + 990, 1, () -> x.bound(false));
    }

    private static void bounds() {
        CHECK.promise(36);
        Queueward x = new Queueward();
        x.envelope(10, 2, 3);
        x.server(4, 5, 2);
        x.server(3, 3, 4);
        x.server(1, 7, 9);
        CHECK.dueFraction("delay: 8 and 10 by 3 / 4", x, 64, 3, () -> x.bound(false));
        CHECK.dueFraction("buffer: 10 and 2 / 3 times 8", x, 46, 3, () -> x.bound(true));
        x.server(0, 2, 3);
        CHECK.dueFraction("the rate is the least one: 8 and 15", x, 23, 1, () -> x.bound(false));
        CHECK.dueFraction("the rate is the least one", x, 46, 3, () -> x.bound(true));
        Queueward y = new Queueward();
        y.server(0, 99, 99);
        CHECK.dueFraction("no burst, no latency", y, 0, 1, () -> y.bound(false));
        CHECK.dueFraction("no burst, no rate", y, 0, 1, () -> y.bound(true));
        y.envelope(999, 1, 99);
        y.server(99, 1, 99);
        y.server(99, 98, 99);
        CHECK.dueFraction("the most", y, 198 + 999 * 99, 1, () -> y.bound(false));
        CHECK.dueFraction("the most", y, 1001, 1, () -> y.bound(true));
        CHECK.due("errors", 0, x::errors);
    }

    private static void boundsThatAreNotThere() {
        Queueward x = new Queueward();
        CHECK.due("no server", Check.NO_SUCH, () -> x.bound(false));
        x.envelope(1, 49, 98);
        x.server(1, 1, 2);
        CHECK.due("the same rate", 1, () -> x.bound(false));
        x.server(1, 48, 97);
        CHECK.due("a least rate just below it", Check.NO_SUCH, () -> x.bound(false));
        CHECK.due("a least rate just below it", Check.NO_SUCH, () -> x.bound(true));
        CHECK.due("the result stays", 3L, () -> x.result(false));
        x.server(1, 99, 1);
        CHECK.due("a greater one does not help", Check.NO_SUCH, () -> x.bound(true));
        x.envelope(1, 0, 98);
        CHECK.due("no server", Check.NO_SUCH, () -> x.bound(true));
        x.server(0, 1, 99);
        CHECK.due("without a rate", 1, () -> x.bound(true));
    }

    private static void fitting() {
        CHECK.promise(37);
        Queueward x = new Queueward();
        CHECK.due("no jobs", true, x::fits);
        x.come(3, 5, 0, 1);
        CHECK.due("a burst of 0", false, x::fits);
        x.envelope(4, 99, 1);
        CHECK.due("more at a tick than the burst", false, x::fits);
        x.envelope(5, 0, 1);
        CHECK.due("the burst", true, x::fits);
        x.come(5, 1, 0, 1);
        CHECK.due("a rate of 0", false, x::fits);
        x.envelope(5, 1, 2);
        CHECK.due("just the rate", true, x::fits);
        x.envelope(5, 48, 97);
        CHECK.due("just below the rate", false, x::fits);
        x.envelope(5, 50, 99);
        CHECK.due("just above the rate", true, x::fits);
        x.come(5, 1, 0, 1);
        CHECK.due("two at a tick", false, x::fits);
        x.envelope(5, 1, 1);
        CHECK.due("two at a tick, by a greater rate", true, x::fits);
        x.come(500, 5, 0, 1);
        CHECK.due("a burst later", true, x::fits);
        x.come(500, 1, 0, 1);
        CHECK.due("more than a burst later", false, x::fits);
        x.undo();
        CHECK.due("undone", true, x::fits);
        x.server(1, 1, 1);
        x.line(1, 0, 0, 1);
        CHECK.due("the line does not count", true, x::fits);
    }

    private static void fittingAtManyTicks() {
        Queueward x = new Queueward();
        for (int job = 0; job < 24; job++) {
            x.come(3 * job, 2, 0, 1);
        }
        x.envelope(2, 2, 3);
        CHECK.due("a steady stream", true, x::fits);
        x.envelope(3, 43, 66);
        CHECK.due("too slow for all 24 in a row", false, x::fits);
        x.undo();
        CHECK.due("but just not for 23", true, x::fits);
        x.envelope(3, 42, 65);
        CHECK.due("a little slower", false, x::fits);
        CHECK.due("errors", 0, x::errors);
    }
}
