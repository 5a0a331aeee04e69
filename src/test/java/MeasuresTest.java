/** Promises 41 to 43: means, shares and the theorem. */
public final class MeasuresTest {
    private static final Check CHECK = new Check("MeasuresTest");

    public static void main(String[] args) {
        means();
        doneShares();
        errors();
        errorsOfTimes();
        errorsOfChains();
        errorsOfClosedNets();
        errorsLeaveAll();
        CHECK.end();
    }

    private static void means() {
        CHECK.promise(41);
        Queueward x = new Queueward();
        CHECK.due("without jobs", 0.0, x::mean);
        x.come(0, 3, 0, 1);
        CHECK.due("one", 3.0, x::mean);
        x.come(0, 1, 1, 9);
        x.come(2, 2, 2, 3);
        CHECK.due("not weighed", 11 / 3.0, x::mean);
        x.line(1, 0, 24, 2);
        CHECK.due("with one that is gone", 8 / 3.0, x::mean);
        x.line(1, 0, 0, 2);
        CHECK.due("with lost ones", 1.0, x::mean);
        x.undo();
        CHECK.due("half", 1.5, x::mean);
        x.clear();
        CHECK.due("without jobs again", 0.0, x::mean);
        CHECK.due("comes to no fraction", 0L, () -> x.result(false));
    }

    private static void doneShares() {
        CHECK.promise(42);
        Queueward x = new Queueward();
        CHECK.due("without jobs", 0.0f, x::doneShare);
        x.come(0, 3, 0, 1);
        x.come(0, 1, 0, 1);
        x.come(1, 2, 0, 1);
        CHECK.due("all", 1.0f, x::doneShare);
        x.line(1, 0, 24, 2);
        CHECK.due("without those gone", 1 / 3.0f, x::doneShare);
        x.line(1, 0, 1, 999);
        CHECK.due("without those lost", 2 / 3.0f, x::doneShare);
        x.line(1, 0, 1, 2);
        CHECK.due("without both", 1 / 3.0f, x::doneShare);
        x.line(3, 0, 0, 1);
        CHECK.due("all by three servers", 1.0f, x::doneShare);
        x.clear();
        CHECK.due("without jobs again", 0.0f, x::doneShare);
    }

    /** All six things together, with all rules and many lines. */
    private static void errors() {
        CHECK.promise(43);
        Queueward x = new Queueward();
        CHECK.due("of a new object", 0, x::errors);
        for (int job = 0; job < 24; job++) {
            x.come(7 * job, 1 + 5 * job % 9, job % 3, 1 + job % 9);
        }
        x.states(4, 10);
        int[][] rows = {{1, 2, 3, 4}, {0, 5, 5, 0}, {0, 1, 9, 0}, {0, 0, 0, 10}};
        x.net(3);
        for (int from = 0; from < 3; from++) {
            x.node(from, 0, 17 + 300 * from);
            x.way(from, from, 21);
            x.way(from, (from + 1) % 3, 79);
        }
        for (int from = 0; from < 4; from++) {
            CHECK.due("while the chain is made", 0, x::errors);
            for (int to = 0; to < 4; to++) {
                x.chance(from, to, rows[from][to]);
            }
        }
        x.option(0, 10, 0);
        x.option(1, 0, 1);
        x.option(2, 5, 2);
        CHECK.due("of all", 0, x::errors);
        x.envelope(40, 1, 1);
        CHECK.due("the jobs fit", true, x::fits);
        for (int rule = 0; rule < 6; rule++) {
            x.line(1 + rule % 4, rule, rule, 3 + rule);
            CHECK.due("of another line", 0, x::errors);
        }
        x.envelope(9, 99, 1);
        CHECK.due("of a rate above 1", 0, x::errors);
        x.envelope(0, 0, 1);
        CHECK.due("of an envelope that they don't fit", 0, x::errors);
        for (int above = 0; above < 5; above++) {
            burstThatIsJustEnough(above);
        }
    }

    /** The times by the rule 0 count, not those by others, and only at a rate of 1 at most. */
    private static void errorsOfTimes() {
        Queueward x = new Queueward();
        x.come(0, 2, 0, 1);
        for (int tick = 1; tick < 5; tick++) {
            x.come(tick, 1, 0, 1);
        }
        x.envelope(2, 1, 1);
        for (int rule = 0; rule < 6; rule++) {
            x.line(1, rule, 24, 999);
            CHECK.due("they fit, at a rate of 1", true, x::fits);
            CHECK.due("errors at a rate of 1", 0, x::errors);
        }
        Queueward y = new Queueward();
        y.come(0, 5, 0, 1);
        y.come(1, 5, 0, 1);
        y.envelope(5, 5, 1);
        CHECK.due("they fit, at a rate above 1", true, y::fits);
        CHECK.due("a time is above the burst", 9, () -> y.jobAt(1, 3));
        CHECK.due("errors at a rate above 1", 0, y::errors);
        y.envelope(5, 99, 98);
        CHECK.due("they don't fit", false, y::fits);
        CHECK.due("errors, as they don't fit", 0, y::errors);
    }

    /** From seven states in a ring down to one. */
    private static void errorsOfChains() {
        Queueward x = new Queueward();
        for (int states = 7; states > 0; states--) {
            x.states(states, 100);
            CHECK.due("while each state stays", 0, x::errors);
            for (int state = 0; state < states; state++) {
                x.chance(state, (state + 1) % states, 100 - 3 * state);
                CHECK.due("while it is not lawful", 0, x::errors);
                x.chance(state, state, states == 1 ? 100 : 3 * state);
                CHECK.due("while it is lawful", 0, x::errors);
            }
        }
    }

    /** Not those of the net ahead. */
    private static void errorsOfClosedNets() {
        Queueward x = new Queueward();
        for (int nodes = 4; nodes > 0; nodes--) {
            x.net(nodes);
            for (int node = 0; node < nodes; node++) {
                CHECK.due("while it is not closed", 0, x::errors);
                x.node(node, 0, 1 + 5 * node + nodes);
                x.way(node, (node + 1) % nodes, 100 - 20 * node);
                x.way(node, node, nodes == 1 ? 100 : 20 * node);
            }
            CHECK.due("closed", 0, x::errors);
            CHECK.due("closed", 1, () -> x.closed(2, 0));
            x.node(0, 0, 1000);
            CHECK.due("with another service rate", 0, x::errors);
            x.node(0, 1, 1000);
            CHECK.due("with comings", 0, x::errors);
        }
    }

    private static void burstThatIsJustEnough(int above) {
        Queueward x = new Queueward();
        for (int job = 0; job < 12; job++) {
            x.come(7 * job, 1 + 5 * job % 9, 0, 1);
        }
        boolean fits = false;
        for (int burst = 0; burst < 200 && !fits; burst++) {
            x.envelope(burst, above, 4);
            fits = x.fits();
        }
        CHECK.due("some burst is enough", true, x::fits);
        CHECK.due("of a burst that is just enough", 0, x::errors);
    }

    private static void errorsLeaveAll() {
        Queueward x = new Queueward();
        x.come(0, 3, 0, 1);
        x.come(0, 1, 1, 2);
        x.line(2, 4, 3, 7);
        x.option(0, 4, 4);
        x.option(1, 2, 9);
        x.option(2, 4, 5);
        x.lostShare(3, 2, 1);
        CHECK.due("errors", 0, x::errors);
        CHECK.due("the result stays", 19L, () -> x.result(true));
        CHECK.due("the play stays", 1, () -> x.jobAt(1, 2));
        CHECK.due("the line stays", 4, () -> x.line(1, 0, 24, 999));
        CHECK.due("the game stays", 2, () -> x.option(1, 2, 9));
        CHECK.due("the changes stay", 1, x::undo);
    }
}
