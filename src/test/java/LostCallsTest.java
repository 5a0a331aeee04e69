/** Promises 24 and 25: shares of calls that are lost. */
public final class LostCallsTest {
    private static final Check CHECK = new Check("LostCallsTest");

    public static void main(String[] args) {
        shares();
        wrongShares();
        greatShares();
        serversNeeded();
        wrongServersNeeded();
        CHECK.end();
    }

    private static void shares() {
        CHECK.promise(24);
        Queueward x = new Queueward();
        long[] below = {1, 2, 5, 16, 65, 326};
        for (int servers = 0; servers < below.length; servers++) {
            int n = servers;
            CHECK.dueFraction("load 1 on " + n, x, 1, below[n], () -> x.lostShare(n, 1, 1));
            CHECK.dueFraction("load 7 / 7 on " + n, x, 1, below[n], () -> x.lostShare(n, 7, 7));
        }
        CHECK.dueFraction("load 2 on 3", x, 4, 19, () -> x.lostShare(3, 2, 1));
        CHECK.dueFraction("load 2 on 4", x, 2, 21, () -> x.lostShare(4, 2, 1));
        CHECK.dueFraction("load 1 / 2 on 2", x, 1, 13, () -> x.lostShare(2, 1, 2));
        CHECK.dueFraction("no load on none", x, 1, 1, () -> x.lostShare(0, 0, 999));
        CHECK.dueFraction("no load on one", x, 0, 1, () -> x.lostShare(1, 0, 1));
        CHECK.dueFraction("no load on 30", x, 0, 1, () -> x.lostShare(30, 0, 999));
        CHECK.dueFraction("the greatest load", x, 999, 1000, () -> x.lostShare(1, 999, 1));
        CHECK.dueFraction("the least load", x, 1, 1000, () -> x.lostShare(1, 1, 999));
    }

    private static void wrongShares() {
        Queueward x = new Queueward();
        x.lostShare(1, 1, 3);
        CHECK.due("servers -1", Check.ARGUMENT, () -> x.lostShare(-1, 1, 1));
        CHECK.due("servers 31", Check.ARGUMENT, () -> x.lostShare(31, 1, 1));
        CHECK.due("above -1", Check.ARGUMENT, () -> x.lostShare(1, -1, 1));
        CHECK.due("above 1000", Check.ARGUMENT, () -> x.lostShare(1, 1000, 1));
        CHECK.due("below 0", Check.ARGUMENT, () -> x.lostShare(1, 1, 0));
        CHECK.due("below 1000", Check.ARGUMENT, () -> x.lostShare(1, 1, 1000));
        CHECK.due("the result stays", 4L, () -> x.result(true));
    }

    /** To the last digit, against the model. */
    private static void greatShares() {
        int[][] loads = {{999, 1}, {998, 999}, {1, 999}, {30, 1}, {961, 31}, {512, 243}, {210, 11}};
        for (int[] load : loads) {
            for (int servers = 0; servers <= 30; servers++) {
                int n = servers;
                Model model = new Model();
                model.lostShare(n, load[0], load[1]);
                Queueward x = new Queueward();
                CHECK.dueText("load " + load[0] + " / " + load[1] + " on " + n, x, model.text(),
                    () -> x.lostShare(n, load[0], load[1]));
            }
        }
    }

    private static void serversNeeded() {
        CHECK.promise(25);
        Queueward x = new Queueward();
        CHECK.due("at most 1 / 10", 4, () -> x.serversFor(2, 1, 1, 10));
        CHECK.due("just the limit", 2, () -> x.serversFor(2, 1, 2, 5));
        CHECK.due("a little less", 3, () -> x.serversFor(2, 1, 399, 998));
        CHECK.due("a little more", 2, () -> x.serversFor(2, 1, 399, 997));
        CHECK.due("the limit 1", 0, () -> x.serversFor(999, 1, 1, 1));
        CHECK.due("a limit above 1", 0, () -> x.serversFor(999, 1, 999, 1));
        CHECK.due("a limit just below 1", 1, () -> x.serversFor(1, 1, 998, 999));
        CHECK.due("no load, no loss", 1, () -> x.serversFor(0, 1, 0, 1));
        CHECK.due("a load, no loss", Check.NO_SUCH, () -> x.serversFor(1, 999, 0, 999));
        CHECK.due("30 are enough", 30, () -> x.serversFor(22, 1, 22, 999));
        CHECK.due("30 are not enough", Check.NO_SUCH, () -> x.serversFor(22, 1, 20, 999));
        CHECK.due("29 are enough", 29, () -> x.serversFor(22, 1, 31, 999));
        CHECK.due("the greatest load", Check.NO_SUCH, () -> x.serversFor(999, 1, 969, 999));
        CHECK.due("the greatest load", 30, () -> x.serversFor(999, 1, 970, 999));
        CHECK.due("comes to no fraction", 0L, () -> x.result(false));
    }

    private static void wrongServersNeeded() {
        Queueward x = new Queueward();
        CHECK.due("above -1", Check.ARGUMENT, () -> x.serversFor(-1, 1, 1, 1));
        CHECK.due("above 1000", Check.ARGUMENT, () -> x.serversFor(1000, 1, 1, 1));
        CHECK.due("below 0", Check.ARGUMENT, () -> x.serversFor(1, 0, 1, 1));
        CHECK.due("below 1000", Check.ARGUMENT, () -> x.serversFor(1, 1000, 1, 1));
        CHECK.due("limit above -1", Check.ARGUMENT, () -> x.serversFor(1, 1, -1, 1));
        CHECK.due("limit above 1000", Check.ARGUMENT, () -> x.serversFor(1, 1, 1000, 1));
        CHECK.due("limit below 0", Check.ARGUMENT, () -> x.serversFor(1, 1, 1, 0));
        CHECK.due("limit below 1000", Check.ARGUMENT, () -> x.serversFor(1, 1, 1, 1000));
        CHECK.due("the edges", 0, () -> x.serversFor(0, 999, 999, 999));
        CHECK.due("not enough, and out of range", Check.ARGUMENT, () -> x.serversFor(999, 1, 0, 0));
    }
}
