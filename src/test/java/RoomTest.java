import java.lang.management.ManagementFactory;

/** A run of calls makes nothing: what a call needs is made with the object, and that is little. */
public final class RoomTest {
    private static final int CALLS = 512;
    // Far below the room of a run, some 7 million fields and elements.
    private static final long MOST_BYTES = 200_000;
    private static final Check CHECK = new Check("RoomTest");
    private static final com.sun.management.ThreadMXBean THREADS =
        (com.sun.management.ThreadMXBean) ManagementFactory.getThreadMXBean();

    /** A call without an answer, so that no answer is boxed. */
    private interface Quiet {
        void call(int time);
    }

    public static void main(String[] args) {
        Queueward x = full();
        small("an object", 1, time -> new Queueward());
        small("errors, of other jobs each time", CALLS / 2, time -> {
            x.undo();
            x.come(500, 1 + time % 40, 0, 1);
            x.errors();
        });
        small("a play", CALLS / 2, time -> {
            x.line(1 + time % 4, time % 6, 24, 999);
            x.meanTime(-1);
        });
        small("clear and undo", CALLS / 2, time -> {
            x.clear();
            x.undo();
        });
        small("behind", CALLS, time -> x.behind(time % 7, 3, 60));
        small("longShare", CALLS, time -> x.longShare(time % 7));
        small("timeTo", CALLS, time -> x.timeTo(time % 7, 3));
        small("reach", CALLS, time -> x.reach(time % 7, 3));
        small("lostShare", CALLS, time -> x.lostShare(30, 999 - time, 998));
        small("serversFor", CALLS, time -> x.serversFor(999, 999, 1, 999));
        small("closed", CALLS, time -> x.closed(3, time % 4));
        small("write", CALLS, time -> x.write());
        x.wipe();
        for (int i = 0; i < 90; i++) {
            Check.typeText(x, "at0takes1;");
        }
        small("fault", CALLS, time -> x.fault());
        x.net(4);
        x.node(0, 499, 999);
        x.way(0, 0, 49);
        small("numbers", CALLS, time -> x.numbers(0, 9));
        small("growth", CALLS, time -> x.growth(time % 4));
        small("price", CALLS, time -> x.price(30));
        CHECK.end();
    }

    private static Queueward full() {
        Queueward x = new Queueward();
        for (int job = 0; job < 24; job++) {
            x.come(20 * job, 40, job % 3, 1);
        }
        x.states(7, 100);
        x.net(4);
        for (int from = 0; from < 7; from++) {
            for (int to = 0; to < 7; to++) {
                x.chance(from, to, to == from ? 40 : 10);
            }
        }
        for (int from = 0; from < 4; from++) {
            x.node(from, 0, 997 - from);
            for (int to = 0; to < 4; to++) {
                x.way(from, to, to == from ? 31 : 23);
            }
        }
        return x;
    }

    private static void small(String what, int times, Quiet call) {
        run(times, call);
        long before = THREADS.getCurrentThreadAllocatedBytes();
        run(times, call);
        long made = THREADS.getCurrentThreadAllocatedBytes() - before;
        CHECK.due(what + " makes little, " + made + " bytes", true, () -> made < MOST_BYTES);
    }

    private static void run(int times, Quiet call) {
        for (int time = 0; time < times; time++) {
            call.call(time);
        }
    }
}
