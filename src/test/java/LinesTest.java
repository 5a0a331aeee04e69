/** Promises 9 to 16: jobs, undoing, and the play of a line. */
public final class LinesTest {
    private static final Check CHECK = new Check("LinesTest");
    private static final int DONE = 0;
    private static final int GONE = 1;
    private static final int LOST = 2;

    public static void main(String[] args) {
        comings();
        clearing();
        undoing();
        undoingInARing();
        lines();
        asking();
        firstAndLast();
        leastLengthAndKind();
        turns();
        leastRest();
        room();
        fullRoom();
        patience();
        longestPatience();
        goneFromTheMiddle();
        whoHasBeenServed();
        atTheSameTick();
        numbers();
        shorterPlays();
        nothingIsStale();
        longestPlay();
        meanTimes();
        sums();
        CHECK.end();
    }

    /** An object with jobs, told as tick and length (kind 0, weight 1). */
    private static Queueward with(int... ticksAndLengths) {
        Queueward x = new Queueward();
        for (int i = 0; i < ticksAndLengths.length; i += 2) {
            x.come(ticksAndLengths[i], ticksAndLengths[i + 1], 0, 1);
        }
        return x;
    }

    private static void fate(Queueward x, int job, int state, int first, int left, int time) {
        CHECK.due("state of job " + job, state, () -> x.jobAt(job, 0));
        CHECK.due("first tick of job " + job, first, () -> x.jobAt(job, 1));
        CHECK.due("end of job " + job, left, () -> x.jobAt(job, 2));
        CHECK.due("time of job " + job, time, () -> x.jobAt(job, 3));
    }

    private static void comings() {
        CHECK.promise(9);
        Queueward x = new Queueward();
        CHECK.due("tick -1", Check.ARGUMENT, () -> x.come(-1, 1, 0, 1));
        CHECK.due("tick 501", Check.ARGUMENT, () -> x.come(501, 1, 0, 1));
        CHECK.due("length 0", Check.ARGUMENT, () -> x.come(0, 0, 0, 1));
        CHECK.due("length 41", Check.ARGUMENT, () -> x.come(0, 41, 0, 1));
        CHECK.due("kind -1", Check.ARGUMENT, () -> x.come(0, 1, -1, 1));
        CHECK.due("kind 3", Check.ARGUMENT, () -> x.come(0, 1, 3, 1));
        CHECK.due("weight 0", Check.ARGUMENT, () -> x.come(0, 1, 0, 0));
        CHECK.due("weight 10", Check.ARGUMENT, () -> x.come(0, 1, 0, 10));
        CHECK.due("no job yet", Check.INDEX, () -> x.jobAt(0, 4));
        CHECK.due("the least numbers", 0, () -> x.come(0, 1, 0, 1));
        CHECK.due("at the same tick", 1, () -> x.come(0, 40, 2, 9));
        CHECK.due("later", 2, () -> x.come(499, 1, 1, 5));
        CHECK.due("earlier", Check.STATE, () -> x.come(498, 1, 0, 1));
        CHECK.due("earlier, and out of range", Check.ARGUMENT, () -> x.come(498, 0, 0, 1));
        CHECK.due("the last tick", 3, () -> x.come(500, 1, 1, 5));
        CHECK.due("tick", 499, () -> x.jobAt(2, 4));
        CHECK.due("length", 40, () -> x.jobAt(1, 5));
        CHECK.due("kind", 2, () -> x.jobAt(1, 6));
        CHECK.due("weight", 9, () -> x.jobAt(1, 7));
        for (int job = 4; job < 24; job++) {
            int number = job;
            CHECK.due("number", number, () -> x.come(500, 1, 0, 1));
        }
        CHECK.due("a 25th one", Check.STATE, () -> x.come(500, 1, 0, 1));
        CHECK.due("a 25th one, and out of range", Check.ARGUMENT, () -> x.come(500, 1, 0, 11));
        CHECK.due("none more", Check.INDEX, () -> x.jobAt(24, 4));
    }

    private static void clearing() {
        CHECK.promise(10);
        Queueward x = with(3, 4, 5, 6);
        CHECK.due("how many there were", 2, x::clear);
        CHECK.due("no jobs then", Check.INDEX, () -> x.jobAt(0, 4));
        CHECK.due("no times", 0, () -> x.sumTimes(false));
        CHECK.due("no least times", 0, () -> x.sumTimes(true));
        CHECK.due("nobody", 0, () -> x.numberAt(4));
        CHECK.due("again", 0, x::clear);
        CHECK.due("numbers from 0, and from any tick", 0, () -> x.come(1, 1, 0, 1));
        CHECK.due("the line stays", 0, () -> x.line(1, 2, 24, 999));
        x.clear();
        CHECK.due("the line stays", 2, () -> x.line(1, 0, 24, 999));
    }

    private static void undoing() {
        CHECK.promise(11);
        Queueward x = with(1, 2, 3, 4);
        CHECK.due("one back", 1, x::undo);
        CHECK.due("one job", Check.INDEX, () -> x.jobAt(1, 4));
        CHECK.due("the other job", 1, () -> x.jobAt(0, 4));
        CHECK.due("its play", 2, () -> x.sumTimes(false));
        CHECK.due("its least play", 2, () -> x.sumTimes(true));
        CHECK.due("earlier than the undone one", 1, () -> x.come(2, 7, 1, 3));
        CHECK.due("not a change", Check.STATE, () -> x.come(1, 1, 1, 1));
        CHECK.due("not a change", Check.ARGUMENT, () -> x.come(9, 41, 1, 1));
        x.line(1, 1, 1, 1);
        x.clear();
        x.clear();
        CHECK.due("the clear that changed nothing", 3, x::undo);
        CHECK.due("still no jobs", Check.INDEX, () -> x.jobAt(0, 4));
        CHECK.due("the other clear", 2, x::undo);
        CHECK.due("all are back", 7, () -> x.jobAt(1, 5));
        CHECK.due("with their kinds", 1, () -> x.jobAt(1, 6));
        CHECK.due("with their weights", 3, () -> x.jobAt(1, 7));
        CHECK.due("a job", 1, x::undo);
        CHECK.due("a job", 0, x::undo);
        CHECK.due("no more", Check.NO_SUCH, x::undo);
        CHECK.due("no more", Check.NO_SUCH, x::undo);
        CHECK.due("the line is not undone", 1, () -> x.line(1, 0, 24, 999));
    }

    private static void undoingInARing() {
        Queueward x = new Queueward();
        for (int job = 0; job < 24; job++) {
            x.come(job, 1, 0, 1);
        }
        for (int more = 19; more >= 0; more--) {
            int left = more;
            CHECK.due("how many more", left, x::undo);
            CHECK.due("the latest one is away", Check.INDEX, () -> x.jobAt(left + 4, 4));
            CHECK.due("the one ahead is there", left + 3, () -> x.jobAt(left + 3, 4));
        }
        CHECK.due("only the latest 20", Check.NO_SUCH, x::undo);
        CHECK.due("four jobs stay", 3, () -> x.jobAt(3, 4));
        for (int round = 0; round < 9; round++) {
            x.clear();
            x.come(round, 5, 0, 1);
            x.come(round + 100, 6, 0, 1);
        }
        CHECK.due("20 again, less one", 19, x::undo);
        CHECK.due("of the last round", 8, () -> x.jobAt(0, 4));
        CHECK.due("one job of it", Check.INDEX, () -> x.jobAt(1, 4));
        for (int i = 0; i < 3; i++) {
            x.undo();
        }
        CHECK.due("of the round ahead", 7, () -> x.jobAt(0, 4));
        Check.typeText(x, "at 200 takes 1; at 201 takes 1;");
        CHECK.due("a reading", 3, x::read);
        CHECK.due("is one change", 16, x::undo);
        CHECK.due("as ahead of it", Check.INDEX, () -> x.jobAt(1, 4));
    }

    private static void lines() {
        CHECK.promise(12);
        Queueward x = with(0, 2, 0, 2, 0, 2, 0, 2);
        CHECK.due("rule before", 0, () -> x.line(4, 5, 0, 1));
        CHECK.due("rule before", 5, () -> x.line(1, 1, 24, 999));
        CHECK.due("servers 0", Check.ARGUMENT, () -> x.line(0, 0, 0, 1));
        CHECK.due("servers 5", Check.ARGUMENT, () -> x.line(5, 0, 0, 1));
        CHECK.due("rule -1", Check.ARGUMENT, () -> x.line(1, -1, 0, 1));
        CHECK.due("rule 6", Check.ARGUMENT, () -> x.line(1, 6, 0, 1));
        CHECK.due("room -1", Check.ARGUMENT, () -> x.line(1, 0, -1, 1));
        CHECK.due("room 25", Check.ARGUMENT, () -> x.line(1, 0, 25, 1));
        CHECK.due("patience 0", Check.ARGUMENT, () -> x.line(1, 0, 0, 0));
        CHECK.due("patience 1000", Check.ARGUMENT, () -> x.line(1, 0, 0, 1000));
        CHECK.due("the line stays", 0, () -> x.jobAt(3, 1));
        CHECK.due("the line stays", 1, () -> x.line(1, 2, 0, 999));
        CHECK.due("servers 1", 2, () -> x.sumTimes(false));
        for (int servers = 1; servers <= 4; servers++) {
            x.line(servers, 0, 0, 999);
            int there = servers;
            CHECK.due("so many servers", there, () -> x.numberAt(0));
            CHECK.due("their times", 2 * there, () -> x.sumTimes(false));
        }
        CHECK.due("of a job without a server", LOST, () -> {
            x.line(3, 0, 0, 999);
            return x.jobAt(3, 0);
        });
    }

    private static void asking() {
        CHECK.promise(13);
        Queueward x = with(2, 3, 4, 5);
        CHECK.due("what -1", Check.ARGUMENT, () -> x.jobAt(0, -1));
        CHECK.due("what 8", Check.ARGUMENT, () -> x.jobAt(1, 8));
        CHECK.due("job -1", Check.INDEX, () -> x.jobAt(-1, 0));
        CHECK.due("job 2", Check.INDEX, () -> x.jobAt(2, 0));
        CHECK.due("job 2, and what 8", Check.INDEX, () -> x.jobAt(2, 8));
        CHECK.due("far off", Check.INDEX, () -> x.jobAt(Integer.MAX_VALUE, 4));
        CHECK.due("far off", Check.INDEX, () -> x.jobAt(Integer.MIN_VALUE, 4));
        fate(x, 0, DONE, 2, 5, 3);
        fate(x, 1, DONE, 5, 10, 6);
        CHECK.due("tick", 4, () -> x.jobAt(1, 4));
        CHECK.due("length", 5, () -> x.jobAt(1, 5));
    }

    private static void firstAndLast() {
        Queueward x = with(0, 3, 0, 2, 1, 1, 1, 2, 4, 1);
        fate(x, 0, DONE, 0, 3, 3);
        fate(x, 1, DONE, 3, 5, 5);
        fate(x, 2, DONE, 5, 6, 5);
        fate(x, 3, DONE, 6, 8, 7);
        fate(x, 4, DONE, 8, 9, 5);
        x.line(1, 1, 24, 999);
        fate(x, 1, DONE, 0, 2, 2);
        fate(x, 3, DONE, 2, 4, 3);
        fate(x, 4, DONE, 4, 5, 1);
        fate(x, 2, DONE, 5, 6, 5);
        fate(x, 0, DONE, 6, 9, 9);
        x.line(2, 1, 24, 999);
        fate(x, 1, DONE, 0, 2, 2);
        fate(x, 0, DONE, 0, 3, 3);
        fate(x, 3, DONE, 2, 4, 3);
        fate(x, 2, DONE, 3, 4, 3);
        fate(x, 4, DONE, 4, 5, 1);
    }

    private static void leastLengthAndKind() {
        Queueward x = new Queueward();
        x.come(0, 3, 2, 1);
        x.come(0, 2, 1, 1);
        x.come(0, 2, 2, 1);
        x.come(0, 5, 1, 1);
        x.come(1, 1, 0, 1);
        x.line(1, 2, 24, 999);
        fate(x, 1, DONE, 0, 2, 2);
        fate(x, 4, DONE, 2, 3, 2);
        fate(x, 2, DONE, 3, 5, 5);
        fate(x, 0, DONE, 5, 8, 8);
        fate(x, 3, DONE, 8, 13, 13);
        x.line(1, 3, 24, 999);
        fate(x, 1, DONE, 0, 2, 2);
        fate(x, 4, DONE, 2, 3, 2);
        fate(x, 3, DONE, 3, 8, 8);
        fate(x, 0, DONE, 8, 11, 11);
        fate(x, 2, DONE, 11, 13, 13);
    }

    private static void turns() {
        Queueward x = with(0, 3, 0, 2, 0, 2);
        x.line(2, 4, 24, 999);
        fate(x, 0, DONE, 0, 3, 3);
        fate(x, 1, DONE, 0, 3, 3);
        fate(x, 2, DONE, 1, 4, 4);
        Queueward y = with(0, 2, 1, 2, 1, 1);
        y.line(1, 4, 24, 999);
        fate(y, 0, DONE, 0, 2, 2);
        fate(y, 1, DONE, 2, 5, 4);
        fate(y, 2, DONE, 3, 4, 3);
        Queueward w = with(0, 1, 0, 3, 0, 2, 1, 9);
        w.line(2, 4, 24, 999);
        fate(w, 0, DONE, 0, 1, 1);
        fate(w, 1, DONE, 0, 3, 3);
        fate(w, 2, DONE, 1, 4, 4);
        fate(w, 3, DONE, 2, 11, 10);
        Queueward z = with(0, 3, 0, 3);
        z.line(1, 4, 24, 2);
        fate(z, 0, DONE, 0, 5, 5);
        fate(z, 1, DONE, 1, 6, 6);
    }

    private static void leastRest() {
        Queueward x = with(0, 5, 0, 2, 1, 1);
        x.line(2, 5, 24, 999);
        fate(x, 0, DONE, 0, 6, 6);
        fate(x, 1, DONE, 0, 2, 2);
        fate(x, 2, DONE, 1, 2, 1);
        Queueward y = with(0, 5, 2, 3, 3, 1);
        y.line(1, 5, 24, 999);
        fate(y, 0, DONE, 0, 6, 6);
        fate(y, 1, DONE, 6, 9, 7);
        fate(y, 2, DONE, 3, 4, 1);
        Queueward z = with(0, 5, 0, 4, 1, 1);
        z.line(1, 5, 24, 2);
        fate(z, 0, GONE, -1, 2, 2);
        fate(z, 1, DONE, 0, 5, 5);
        fate(z, 2, DONE, 1, 2, 1);
    }

    private static void room() {
        Queueward x = with(0, 2, 0, 1, 0, 1, 1, 1, 2, 1, 2, 1);
        x.line(1, 0, 1, 999);
        fate(x, 0, DONE, 0, 2, 2);
        fate(x, 1, DONE, 2, 3, 3);
        fate(x, 2, LOST, -1, 0, 0);
        fate(x, 3, LOST, -1, 1, 0);
        fate(x, 4, DONE, 3, 4, 2);
        fate(x, 5, LOST, -1, 2, 0);
        x.line(1, 1, 0, 999);
        fate(x, 0, DONE, 0, 2, 2);
        fate(x, 1, LOST, -1, 0, 0);
        fate(x, 4, DONE, 2, 3, 1);
        fate(x, 5, LOST, -1, 2, 0);
        x.line(1, 4, 1, 999);
        fate(x, 3, LOST, -1, 1, 0);
        fate(x, 1, DONE, 1, 2, 2);
        fate(x, 0, DONE, 0, 3, 3);
        fate(x, 4, DONE, 3, 4, 2);
        fate(x, 5, LOST, -1, 2, 0);
        x.line(1, 5, 1, 999);
        fate(x, 1, DONE, 0, 1, 1);
        fate(x, 3, DONE, 1, 2, 1);
        fate(x, 4, DONE, 2, 3, 1);
        fate(x, 0, DONE, 3, 5, 5);
    }

    private static void patience() {
        Queueward x = with(0, 10, 0, 1, 2, 1);
        x.line(1, 0, 1, 2);
        fate(x, 0, DONE, 0, 10, 10);
        fate(x, 1, GONE, -1, 2, 2);
        fate(x, 2, GONE, -1, 4, 2);
        Queueward y = with(0, 2, 0, 1, 1, 1);
        y.line(1, 0, 24, 2);
        fate(y, 1, GONE, -1, 2, 2);
        fate(y, 2, DONE, 2, 3, 2);
        y.line(1, 0, 24, 3);
        fate(y, 1, DONE, 2, 3, 3);
        y.line(1, 0, 24, 1);
        fate(y, 1, GONE, -1, 1, 1);
        fate(y, 2, GONE, -1, 2, 1);
        fate(y, 0, DONE, 0, 2, 2);
        Queueward z = with(0, 9, 0, 3, 0, 2, 1, 1);
        z.line(1, 2, 24, 4);
        fate(z, 2, DONE, 0, 2, 2);
        fate(z, 3, DONE, 2, 3, 2);
        fate(z, 1, DONE, 3, 6, 6);
        fate(z, 0, GONE, -1, 4, 4);
    }

    /** Servers and room together are just enough for the 24 jobs, or for one of them less. */
    private static void fullRoom() {
        Queueward x = new Queueward();
        for (int job = 0; job < 24; job++) {
            x.come(3, 2, 0, 1);
        }
        for (int servers = 1; servers <= 4; servers++) {
            for (int rule = 0; rule < 6; rule++) {
                x.line(servers, rule, 24 - servers, 999);
                CHECK.due("the last place", DONE, () -> x.jobAt(23, 0));
                CHECK.due("all are there", 24, () -> x.numberAt(3));
                x.line(servers, rule, 23 - servers, 999);
                fate(x, 23, LOST, -1, 3, 0);
                CHECK.due("the last place", DONE, () -> x.jobAt(22, 0));
                CHECK.due("all but one are there", 23, () -> x.numberAt(3));
            }
        }
        x.line(1, 0, 24, 999);
        CHECK.due("room for all", 24, () -> x.numberAt(3));
    }

    /** No job waits longer than 920 ticks: the last one of 24 that come at once and take 40 each. */
    private static void longestPatience() {
        Queueward x = new Queueward();
        for (int job = 0; job < 24; job++) {
            x.come(500, 40, 0, 1);
        }
        fate(x, 23, DONE, 1420, 1460, 960);
        x.line(1, 0, 24, 921);
        fate(x, 23, DONE, 1420, 1460, 960);
        x.line(1, 0, 24, 920);
        fate(x, 23, GONE, -1, 1420, 920);
        fate(x, 22, DONE, 1380, 1420, 920);
        CHECK.due("nobody at the last one's leaving", 0, () -> x.numberAt(1420));
    }

    private static void goneFromTheMiddle() {
        Queueward x = with(0, 5, 1, 1, 1, 9);
        x.line(1, 5, 24, 1);
        fate(x, 0, DONE, 0, 6, 6);
        fate(x, 1, DONE, 1, 2, 1);
        fate(x, 2, GONE, -1, 2, 1);
        Queueward y = with(0, 3, 0, 1, 0, 2);
        y.line(1, 1, 24, 2);
        fate(y, 2, DONE, 0, 2, 2);
        fate(y, 0, GONE, -1, 2, 2);
        fate(y, 1, GONE, -1, 2, 2);
        Queueward z = with(0, 2, 0, 2, 1, 1);
        z.line(1, 3, 24, 1);
        fate(z, 0, DONE, 0, 2, 2);
        fate(z, 1, GONE, -1, 1, 1);
        fate(z, 2, GONE, -1, 2, 1);
    }

    /** They have no impatience, and are not lost any more, though they wait again. */
    private static void whoHasBeenServed() {
        for (int rule = 4; rule < 6; rule++) {
            Queueward x = with(0, 4, 1, 2, 1, 2);
            x.line(1, rule, 1, 3);
            CHECK.due("served first", 0, () -> x.jobAt(0, 1));
            CHECK.due("lost, with two there", LOST, () -> x.jobAt(2, 0));
            CHECK.due("not gone", DONE, () -> x.jobAt(0, 0));
            CHECK.due("not lost", DONE, () -> x.jobAt(1, 0));
        }
        Queueward y = with(0, 9, 1, 1, 2, 1, 3, 1, 4, 1);
        y.line(1, 5, 0, 1);
        fate(y, 0, DONE, 0, 9, 9);
        fate(y, 1, LOST, -1, 1, 0);
        y.line(1, 5, 1, 1);
        fate(y, 1, DONE, 1, 2, 1);
        fate(y, 4, DONE, 4, 5, 1);
        fate(y, 0, DONE, 0, 13, 13);
    }

    /** First those who are done or out of patience leave, then others come, and then servers take. */
    private static void atTheSameTick() {
        Queueward x = with(0, 2, 2, 3);
        x.line(1, 0, 0, 1);
        fate(x, 1, DONE, 2, 5, 3);
        Queueward y = with(0, 2, 1, 3);
        y.line(1, 0, 0, 1);
        fate(y, 1, LOST, -1, 1, 0);
        Queueward z = with(0, 3, 0, 1, 3, 1);
        z.line(1, 0, 1, 3);
        fate(z, 1, GONE, -1, 3, 3);
        fate(z, 2, DONE, 3, 4, 1);
        z.line(1, 0, 1, 4);
        fate(z, 1, DONE, 3, 4, 4);
        fate(z, 2, DONE, 4, 5, 2);
        Queueward w = with(0, 9, 0, 9, 2, 1, 2, 1);
        w.line(1, 0, 1, 2);
        fate(w, 1, GONE, -1, 2, 2);
        fate(w, 2, GONE, -1, 4, 2);
        fate(w, 3, LOST, -1, 2, 0);
    }

    /** Ticks that a longer play had, and jobs that were there, count no more. */
    private static void shorterPlays() {
        CHECK.promise(14);
        Queueward x = with(0, 5, 0, 5, 0, 5);
        CHECK.due("at the last tick", 1, () -> x.numberAt(14));
        CHECK.due("behind it", 0, () -> x.numberAt(15));
        x.undo();
        CHECK.due("at the last tick", 1, () -> x.numberAt(9));
        CHECK.due("behind it", 0, () -> x.numberAt(10));
        x.line(2, 0, 24, 999);
        CHECK.due("at the last tick", 2, () -> x.numberAt(4));
        CHECK.due("behind it", 0, () -> x.numberAt(5));
        x.clear();
        CHECK.due("without jobs", 0, () -> x.numberAt(0));
        CHECK.due("without jobs", 0, () -> x.sumTimes(false));
        CHECK.promise(15);
        x.come(0, 3, 0, 2);
        CHECK.dueFraction("of the one job alone", x, 3, 1, () -> x.meanTime(-1));
        CHECK.dueFraction("of the one job alone", x, 3, 1, () -> x.meanTime(0));
    }

    private static void asks(Queueward x, int count, int sum, int leastSum, int last) {
        CHECK.promise(13);
        CHECK.due("jobs", count == 0 ? Check.INDEX : last, () -> x.jobAt(count - 1, 2));
        CHECK.due("no more jobs", Check.INDEX, () -> x.jobAt(count, 0));
        CHECK.promise(14);
        CHECK.due("at the last tick", count == 0 ? 0 : 1, () -> x.numberAt(last - 1));
        CHECK.due("behind it", 0, () -> x.numberAt(last));
        CHECK.promise(15);
        CHECK.dueFraction("mean of equal weights", x, count == 0 ? 0 : sum / count, 1, () -> x.meanTime(-1));
        CHECK.promise(16);
        CHECK.due("sum", sum, () -> x.sumTimes(false));
        CHECK.due("least sum", leastSum, () -> x.sumTimes(true));
        CHECK.promise(41);
        CHECK.due("mean", count == 0 ? 0.0 : (double) sum / count, x::mean);
        CHECK.promise(42);
        CHECK.due("all are done", count == 0 ? 0.0f : 1.0f, x::doneShare);
        CHECK.promise(37);
        CHECK.due("fits", count < 2, x::fits);
        CHECK.promise(43);
        CHECK.due("errors", 0, x::errors);
    }

    /** All is asked ahead of each change and behind it. */
    private static void nothingIsStale() {
        Queueward x = new Queueward();
        x.envelope(4, 0, 1);
        asks(x, 0, 0, 0, 0);
        x.come(0, 4, 0, 1);
        asks(x, 1, 4, 4, 4);
        x.come(0, 2, 0, 1);
        asks(x, 2, 10, 8, 6);
        x.undo();
        asks(x, 1, 4, 4, 4);
        Check.typeText(x, "at 1 takes 1;");
        x.read();
        asks(x, 2, 8, 6, 5);
        x.clear();
        asks(x, 0, 0, 0, 0);
        x.undo();
        asks(x, 2, 8, 6, 5);
        x.undo();
        asks(x, 1, 4, 4, 4);
        x.undo();
        asks(x, 0, 0, 0, 0);
    }

    private static void numbers() {
        CHECK.promise(14);
        Queueward x = with(1, 2, 1, 2, 2, 1, 10, 3);
        int[] due = {0, 2, 3, 2, 2, 1, 0, 0, 0, 0, 1, 1, 1, 0};
        for (int tick = 0; tick < due.length; tick++) {
            int at = tick;
            CHECK.due("number at " + at, due[at], () -> x.numberAt(at));
        }
        CHECK.due("ahead", 0, () -> x.numberAt(-1));
        CHECK.due("far ahead", 0, () -> x.numberAt(Integer.MIN_VALUE));
        CHECK.due("far behind", 0, () -> x.numberAt(Integer.MAX_VALUE));
        x.line(1, 0, 0, 999);
        CHECK.due("without those lost", 1, () -> x.numberAt(1));
        CHECK.due("a play that is shorter than the one ahead", 0, () -> {
            x.undo();
            return x.numberAt(10);
        });
        Queueward y = with(0, 4, 0, 4);
        y.line(1, 0, 1, 2);
        CHECK.due("ahead of leaving", 2, () -> y.numberAt(1));
        CHECK.due("without those gone", 1, () -> y.numberAt(2));
    }

    private static void longestPlay() {
        Queueward x = new Queueward();
        for (int job = 0; job < 24; job++) {
            x.come(500, 40, 0, 1);
        }
        for (int rule = 0; rule < 6; rule++) {
            x.line(1, rule, 24, 999);
            CHECK.due("somebody at the last tick", 1, () -> x.numberAt(1459));
            CHECK.due("nobody behind it", 0, () -> x.numberAt(1460));
        }
        x.line(1, 4, 24, 999);
        fate(x, 23, DONE, 523, 1460, 960);
        x.line(1, 5, 24, 999);
        fate(x, 23, DONE, 1420, 1460, 960);
        CHECK.due("with all rules", 0, x::errors);
    }

    private static void meanTimes() {
        CHECK.promise(15);
        Queueward x = new Queueward();
        CHECK.dueFraction("without jobs", x, 0, 1, () -> x.meanTime(-1));
        x.come(0, 3, 0, 9);
        x.come(0, 1, 1, 2);
        x.come(2, 2, 2, 3);
        x.come(20, 5, 2, 1);
        CHECK.dueFraction("of all", x, 52, 15, () -> x.meanTime(Queueward.NONE));
        CHECK.dueFraction("of the kind 0", x, 3, 1, () -> x.meanTime(0));
        CHECK.dueFraction("of the kind 1", x, 4, 1, () -> x.meanTime(1));
        CHECK.dueFraction("of the kind 2", x, 17, 4, () -> x.meanTime(2));
        CHECK.due("kind -2", Check.ARGUMENT, () -> x.meanTime(-2));
        CHECK.due("kind 3", Check.ARGUMENT, () -> x.meanTime(3));
        CHECK.due("the result stays", 17L, () -> x.result(false));
        x.line(1, 0, 0, 999);
        CHECK.dueFraction("of a kind that is lost", x, 0, 1, () -> x.meanTime(1));
        CHECK.dueFraction("with a lost one", x, 5, 4, () -> x.meanTime(2));
        x.undo();
        x.undo();
        CHECK.dueFraction("without such", x, 0, 1, () -> x.meanTime(2));
    }

    private static void sums() {
        CHECK.promise(16);
        Queueward x = new Queueward();
        CHECK.due("without jobs", 0, () -> x.sumTimes(false));
        CHECK.due("least without jobs", 0, () -> x.sumTimes(true));
        x.come(0, 9, 0, 1);
        x.come(1, 2, 0, 9);
        x.come(1, 1, 0, 1);
        CHECK.due("first come, first served", 9 + 10 + 11, () -> x.sumTimes(false));
        CHECK.due("least", 12 + 3 + 1, () -> x.sumTimes(true));
        x.line(1, 2, 24, 999);
        CHECK.due("least length", 9 + 11 + 9, () -> x.sumTimes(false));
        x.line(3, 2, 0, 1);
        CHECK.due("by three servers", 12, () -> x.sumTimes(false));
        CHECK.due("least on one server, whatever the line is", 16, () -> x.sumTimes(true));
        x.line(1, 5, 0, 1);
        CHECK.due("with lost ones", 9, () -> x.sumTimes(false));
        CHECK.due("least with room and patience for all", 16, () -> x.sumTimes(true));
        x.come(30, 4, 0, 1);
        CHECK.due("with one more", 13, () -> x.sumTimes(false));
        CHECK.due("least with one more", 20, () -> x.sumTimes(true));
        x.undo();
        CHECK.due("least without it", 16, () -> x.sumTimes(true));
        Check.typeText(x, "at 1 takes 1;");
        x.read();
        CHECK.due("least with one of the tape", 13 + 4 + 1 + 2, () -> x.sumTimes(true));
    }
}
