import java.lang.management.ManagementFactory;

/** A run of calls makes little: what a call needs is made with the object and used again. */
public final class RoomTest {
    private static final int CALLS = 400;
    // The room of a run holds some 600,000 objects; small ones, of 24 bytes each, fill it by so much.
    private static final long MOST_BYTES = 14_000_000;
    private static final long FIRST_SIGNS = Check.packed("at0takes");
    private static final long OTHER_SIGNS = Check.packed("1;      ");
    private static final Check CHECK = new Check("RoomTest");
    private static final com.sun.management.ThreadMXBean THREADS =
        (com.sun.management.ThreadMXBean) ManagementFactory.getThreadMXBean();

    /** A call without an answer, so that no answer is boxed. */
    private interface Quiet {
        void call(Queueward x, int time);
    }

    public static void main(String[] args) {
        small("an object", 1, (x, time) -> new Queueward());
        small("errors, of other jobs each time", CALLS / 4, (x, time) -> {
            x.undo();
            x.come(500, 1 + time % 40, 0, 1);
            x.errors();
        });
        small("a play", CALLS / 2, (x, time) -> {
            x.line(1 + time % 4, time % 6, 24, 999);
            x.meanTime(-1);
        });
        small("clear and undo", CALLS / 2, (x, time) -> {
            x.clear();
            x.undo();
        });
        small("behind", CALLS, (x, time) -> x.behind(time % 7, 3, 60));
        small("longShare", CALLS, (x, time) -> x.longShare(time % 7));
        small("timeTo", CALLS, (x, time) -> x.timeTo(time % 7, 3));
        small("reach", CALLS, (x, time) -> x.reach(time % 7, 3));
        small("lostShare", CALLS, (x, time) -> x.lostShare(30, 999 - time, 998));
        small("serversFor", CALLS, (x, time) -> x.serversFor(999, 999, 1, 999));
        small("closed", CALLS, (x, time) -> x.closed(3, time % 4));
        small("write", CALLS, (x, time) -> x.write());
        small("fault", CALLS / 2, (x, time) -> {
            if (time < 112) {
                x.type(time % 2 == 0 ? FIRST_SIGNS : OTHER_SIGNS);
            }
            x.fault();
        });
        small("numbers", CALLS, (x, time) -> {
            if (time < 3) {
                x.way(0, time, 0);
                x.node(0, 499, 999);
            } else {
                x.numbers(0, 9);
            }
        });
        small("growth", CALLS, (x, time) -> {
            if (time < 4) {
                x.way(time, time, 0);
            } else {
                x.growth(time % 4);
            }
        });
        small("price", CALLS, (x, time) -> x.price(30));
        CHECK.end();
    }

    private static Queueward full() {
        Queueward x = new Queueward();
        for (int job = 0; job < 24; job++) {
            x.come(20 * job, 40, job % 3, 1);
        }
        x.states(7, 100);
        x.net(4);
        for (int from = 0; from < 7; from++) {
            for (int to = 0; to < 7; to++) {
                x.chance(from, to, to == from ? 40 : 10);
            }
        }
        for (int from = 0; from < 4; from++) {
            x.node(from, 0, 997 - from);
            for (int to = 0; to < 4; to++) {
                x.way(from, to, to == from ? 31 : 23);
            }
        }
        return x;
    }

    /** The first object only warms up, so that no loading of classes is counted. */
    private static void small(String what, int times, Quiet call) {
        run(full(), times, call);
        Queueward x = full();
        long before = THREADS.getCurrentThreadAllocatedBytes();
        run(x, times, call);
        long made = THREADS.getCurrentThreadAllocatedBytes() - before;
        CHECK.due(what + " makes little, " + made + " bytes", true, () -> made < MOST_BYTES);
    }

    private static void run(Queueward x, int times, Quiet call) {
        for (int time = 0; time < times; time++) {
            call.call(x, time);
        }
    }
}
