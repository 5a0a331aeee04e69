import java.util.Random;

/** Promises 26 to 33: nets of nodes. */
public final class NetsTest {
    private static final Check CHECK = new Check("NetsTest");

    public static void main(String[] args) {
        making();
        nodes();
        ways();
        rates();
        oneOfHundredLeaves();
        ratesThatAreNotThere();
        stableNodes();
        numbersThere();
        growths();
        closedNets();
        netsThatAreNotClosed();
        greatNets();
        CHECK.end();
    }

    /** A net told node by node: comings, service rate, percents. */
    private static Queueward net(int[]... nodes) {
        Queueward x = new Queueward();
        x.net(nodes.length);
        for (int from = 0; from < nodes.length; from++) {
            x.node(from, nodes[from][0], nodes[from][1]);
            for (int to = 0; to < nodes.length; to++) {
                x.way(from, to, nodes[from][2 + to]);
            }
        }
        return x;
    }

    private static void making() {
        CHECK.promise(26);
        Queueward x = new Queueward();
        CHECK.due("nodes before", 1, () -> x.net(4));
        for (int node = 0; node < 4; node++) {
            x.node(node, 5, 6);
            x.way(node, node, 7);
        }
        CHECK.due("nodes 0", Check.ARGUMENT, () -> x.net(0));
        CHECK.due("nodes 5", Check.ARGUMENT, () -> x.net(5));
        CHECK.due("all stays", 5, () -> x.node(3, 5, 6));
        CHECK.due("nodes before", 4, () -> x.net(4));
        for (int node = 0; node < 4; node++) {
            int at = node;
            CHECK.due("no ways", 0, () -> x.way(at, at, 0));
            CHECK.dueFraction("no comings", x, 0, 1, () -> x.rate(at));
            CHECK.due("comings before", 0, () -> x.node(at, 1, 2));
            CHECK.due("no ways", 1, () -> x.way(at, 0, 1));
        }
        CHECK.due("nodes before", 4, () -> x.net(1));
        CHECK.due("service rate 1", false, () -> {
            x.node(0, 1, 1);
            return x.isStable(0);
        });
        CHECK.due("nodes before", 1, () -> x.net(2));
        x.way(0, 1, 100);
        x.way(1, 0, 100);
        CHECK.dueFraction("service rates are the same", x, 1, 2, () -> x.closed(1, 0));
        newServiceRates();
    }

    /** Half of what comes to the first node goes to each new one. */
    private static void newServiceRates() {
        Queueward x = new Queueward();
        x.net(4);
        x.net(2);
        x.node(0, 1, 2);
        x.way(0, 1, 50);
        CHECK.dueFraction("mean at a service rate of 1", x, 1, 1, () -> x.numbers(1, -1));
        x.node(0, 2, 3);
        CHECK.due("as much as it serves", false, () -> x.isStable(1));
        x.way(0, 1, 49);
        CHECK.due("less than it serves", true, () -> x.isStable(1));
        CHECK.due("nodes before", 2, () -> x.net(4));
        x.node(0, 2, 3);
        for (int to = 1; to < 4; to++) {
            int node = to;
            x.way(0, to, 30);
            CHECK.dueFraction("mean at a service rate of 1", x, 3, 2, () -> x.numbers(node, -1));
        }
    }

    private static void nodes() {
        CHECK.promise(27);
        Queueward x = new Queueward();
        x.net(2);
        CHECK.due("comings before", 0, () -> x.node(1, 1000, 1000));
        CHECK.due("comings before", 1000, () -> x.node(1, 0, 1));
        CHECK.due("comings before", 0, () -> x.node(1, 3, 4));
        CHECK.due("of the other one", 0, () -> x.node(0, 7, 8));
        CHECK.due("node -1", Check.INDEX, () -> x.node(-1, 0, 1));
        CHECK.due("node 2", Check.INDEX, () -> x.node(2, 0, 1));
        CHECK.due("come -1", Check.ARGUMENT, () -> x.node(1, -1, 1));
        CHECK.due("come 1001", Check.ARGUMENT, () -> x.node(1, 1001, 1));
        CHECK.due("serves 0", Check.ARGUMENT, () -> x.node(1, 1, 0));
        CHECK.due("serves 1001", Check.ARGUMENT, () -> x.node(1, 1, 1001));
        CHECK.due("both wrong", Check.INDEX, () -> x.node(2, 0, 0));
        CHECK.dueFraction("comings stay", x, 3, 1, () -> x.rate(1));
        CHECK.dueFraction("the service rate stays", x, 3, 1, () -> x.numbers(1, -1));
        CHECK.dueFraction("of the other one", x, 7, 1, () -> x.numbers(0, -1));
    }

    private static void ways() {
        CHECK.promise(28);
        Queueward x = new Queueward();
        x.net(3);
        x.node(0, 100, 1000);
        CHECK.due("the sum then", 30, () -> x.way(0, 1, 30));
        CHECK.due("to the same one", 90, () -> x.way(0, 0, 60));
        CHECK.due("100 at most", 100, () -> x.way(0, 2, 10));
        CHECK.due("above 100", Check.ARGUMENT, () -> x.way(0, 2, 11));
        CHECK.due("set anew", 100, () -> x.way(0, 1, 30));
        CHECK.due("above 100", Check.ARGUMENT, () -> x.way(0, 1, 31));
        CHECK.due("less", 80, () -> x.way(0, 1, 10));
        CHECK.due("from another node", 100, () -> x.way(1, 1, 100));
        CHECK.due("percent -1", Check.ARGUMENT, () -> x.way(2, 1, -1));
        CHECK.due("percent 101", Check.ARGUMENT, () -> x.way(2, 1, 101));
        CHECK.due("from -1", Check.INDEX, () -> x.way(-1, 0, 0));
        CHECK.due("from 3", Check.INDEX, () -> x.way(3, 0, 0));
        CHECK.due("to -1", Check.INDEX, () -> x.way(0, -1, 0));
        CHECK.due("to 3", Check.INDEX, () -> x.way(0, 3, 0));
        CHECK.due("both wrong", Check.INDEX, () -> x.way(0, 3, 101));
        CHECK.due("as before", 0, () -> x.way(1, 1, 0));
        CHECK.dueFraction("through 0", x, 250, 1, () -> x.rate(0));
        CHECK.dueFraction("10 percent of it", x, 25, 1, () -> x.rate(1));
        CHECK.dueFraction("10 percent of it", x, 25, 1, () -> x.rate(2));
    }

    private static void rates() {
        CHECK.promise(29);
        Queueward x = net(new int[] {3, 9, 0, 100}, new int[] {0, 5, 25, 0});
        CHECK.dueFraction("with those who come back", x, 4, 1, () -> x.rate(0));
        CHECK.dueFraction("and on", x, 4, 1, () -> x.rate(1));
        x.way(1, 0, 33);
        CHECK.dueFraction("a fraction", x, 300, 67, () -> x.rate(1));
        CHECK.due("node -1", Check.INDEX, () -> x.rate(-1));
        CHECK.due("node 2", Check.INDEX, () -> x.rate(2));
        Queueward y = net(new int[] {1000, 1, 99, 0, 0, 0}, new int[] {1000, 1, 0, 99, 0, 0},
            new int[] {1000, 1, 0, 99, 0, 1}, new int[] {0, 1000, 0, 0, 0, 0});
        CHECK.dueFraction("many rounds", y, 100_000, 1, () -> y.rate(0));
        CHECK.dueFraction("from another one too", y, 199_000, 1, () -> y.rate(1));
        CHECK.dueFraction("only from outside", y, 1000, 1, () -> y.rate(2));
        CHECK.dueFraction("only from a node", y, 10, 1, () -> y.rate(3));
    }

    /** The most that still leave some outside: 99 of 100 come back to the same node. */
    private static void oneOfHundredLeaves() {
        Queueward x = net(new int[] {1, 101, 99});
        CHECK.promise(29);
        CHECK.dueFraction("a hundred rounds each", x, 100, 1, () -> x.rate(0));
        CHECK.promise(30);
        CHECK.due("just below the service rate", true, () -> x.isStable(0));
        CHECK.promise(31);
        CHECK.dueFraction("mean just below the service rate", x, 100, 1, () -> x.numbers(0, -1));
        CHECK.dueFraction("none there", x, 1, 101, () -> x.numbers(0, 0));
        x.node(0, 10, 1000);
        CHECK.promise(29);
        CHECK.dueFraction("just the greatest service rate", x, 1000, 1, () -> x.rate(0));
        CHECK.promise(30);
        CHECK.due("not below it", false, () -> x.isStable(0));
        CHECK.promise(32);
        x.node(0, 1000, 1);
        CHECK.dueFraction("the most that grow", x, 99_999, 100, () -> x.growth(0));
        Queueward y = net(new int[] {1, 101, 99, 0}, new int[] {1, 1000, 0, 99});
        CHECK.promise(29);
        CHECK.dueFraction("beside another such", y, 100, 1, () -> y.rate(0));
        CHECK.dueFraction("beside another such", y, 100, 1, () -> y.rate(1));
        CHECK.promise(31);
        CHECK.dueFraction("mean just below the service rate", y, 100, 1, () -> y.numbers(0, -1));
        CHECK.dueFraction("mean far below the service rate", y, 1, 9, () -> y.numbers(1, -1));
    }

    private static void ratesThatAreNotThere() {
        Queueward x = net(new int[] {1, 9, 0, 100, 0}, new int[] {0, 9, 0, 0, 100}, new int[] {0, 9, 0, 100, 0});
        CHECK.promise(29);
        CHECK.due("nobody leaves", Check.NO_SUCH, () -> x.rate(0));
        CHECK.due("nobody leaves, and no node", Check.INDEX, () -> x.rate(3));
        CHECK.promise(30);
        CHECK.due("nobody leaves", Check.NO_SUCH, () -> x.isStable(0));
        CHECK.due("nobody leaves, and no node", Check.INDEX, () -> x.isStable(-1));
        CHECK.promise(31);
        CHECK.due("nobody leaves", Check.NO_SUCH, () -> x.numbers(0, -1));
        CHECK.due("nobody leaves, and too many", Check.ARGUMENT, () -> x.numbers(0, 10));
        CHECK.due("nobody leaves, and no node", Check.INDEX, () -> x.numbers(3, 10));
        CHECK.promise(32);
        CHECK.due("nobody leaves", Check.NO_SUCH, () -> x.growth(0));
        CHECK.due("nobody leaves, and no node", Check.INDEX, () -> x.growth(3));
        CHECK.due("the result stays", 0L, () -> x.result(false));
        CHECK.promise(29);
        x.way(2, 1, 99);
        CHECK.dueFraction("some leave at last", x, 100, 1, () -> x.rate(1));
        x.way(2, 1, 100);
        x.way(0, 1, 0);
        CHECK.due("two go round for ever, without comings", Check.NO_SUCH, () -> x.rate(0));
        oneNodeKeepsAll();
    }

    /** Each node in turn keeps all that come to it; then it sends one percent of them outside, or on. */
    private static void oneNodeKeepsAll() {
        for (int node = 0; node < 4; node++) {
            Queueward x = net(new int[] {1, 9, 20, 20, 20, 20}, new int[] {1, 9, 20, 20, 20, 20},
                new int[] {1, 9, 20, 20, 20, 20}, new int[] {1, 9, 20, 20, 20, 20});
            int keeper = node;
            CHECK.due("all leave", 1, () -> x.rate(keeper));
            for (int to = 0; to < 4; to++) {
                x.way(keeper, to, 0);
            }
            x.way(keeper, keeper, 100);
            for (int asked = 0; asked < 4; asked++) {
                int at = asked;
                CHECK.due("one keeps all", Check.NO_SUCH, () -> x.rate(at));
                CHECK.due("one keeps all", Check.NO_SUCH, () -> x.isStable(at));
                CHECK.due("one keeps all", Check.NO_SUCH, () -> x.numbers(at, 0));
                CHECK.due("one keeps all", Check.NO_SUCH, () -> x.growth(at));
            }
            x.way(keeper, keeper, 99);
            CHECK.due("one percent leaves", 1, () -> x.rate(keeper));
            x.way(keeper, (keeper + 1) % 4, 1);
            CHECK.due("one percent goes to those who leave", 1, () -> x.rate(keeper));
        }
    }

    private static void stableNodes() {
        CHECK.promise(30);
        Queueward x = net(new int[] {3, 4, 0, 50}, new int[] {2, 3, 0, 0});
        CHECK.due("below", true, () -> x.isStable(0));
        x.node(0, 4, 4);
        CHECK.due("the same", false, () -> x.isStable(0));
        CHECK.due("more", false, () -> x.isStable(1));
        x.node(1, 2, 5);
        CHECK.due("by the rate, not by what is served", true, () -> x.isStable(1));
        x.node(0, 6, 4);
        CHECK.due("by the rate, not by what is served", false, () -> x.isStable(1));
        CHECK.due("node 2", Check.INDEX, () -> x.isStable(2));
        CHECK.due("node -1", Check.INDEX, () -> x.isStable(-1));
        CHECK.due("comes to no fraction", 1L, () -> x.result(true));
        Queueward y = net(new int[] {6, 13, 53});
        CHECK.due("just below", true, () -> y.isStable(0));
        y.node(0, 7, 14);
        CHECK.due("just above", false, () -> y.isStable(0));
    }

    private static void numbersThere() {
        CHECK.promise(31);
        Queueward x = net(new int[] {3, 4, 0, 50}, new int[] {1, 2, 0, 0});
        CHECK.dueFraction("mean", x, 3, 1, () -> x.numbers(0, Queueward.NONE));
        CHECK.dueFraction("none there", x, 1, 4, () -> x.numbers(0, 0));
        CHECK.dueFraction("one there", x, 3, 16, () -> x.numbers(0, 1));
        CHECK.dueFraction("two there", x, 9, 64, () -> x.numbers(0, 2));
        CHECK.dueFraction("nine there", x, 19683, 1048576, () -> x.numbers(0, 9));
        CHECK.due("not stable", Check.NO_SUCH, () -> x.numbers(1, -1));
        CHECK.due("not stable", Check.NO_SUCH, () -> x.numbers(1, 3));
        x.node(1, 0, 2);
        CHECK.dueFraction("mean by what comes from the other one", x, 3, 1, () -> x.numbers(1, -1));
        x.node(1, 0, 6);
        CHECK.dueFraction("mean by another service rate", x, 1, 3, () -> x.numbers(1, -1));
        CHECK.due("node -1", Check.INDEX, () -> x.numbers(-1, 0));
        CHECK.due("node 2", Check.INDEX, () -> x.numbers(2, 0));
        CHECK.due("many -2", Check.ARGUMENT, () -> x.numbers(0, -2));
        CHECK.due("many 10", Check.ARGUMENT, () -> x.numbers(0, 10));
        CHECK.due("both wrong", Check.INDEX, () -> x.numbers(2, 10));
        x.node(0, 4, 4);
        CHECK.due("not stable, and too many", Check.ARGUMENT, () -> x.numbers(0, 10));
        CHECK.due("not stable: the same rate", Check.NO_SUCH, () -> x.numbers(0, 0));
        CHECK.due("the result stays", 3L, () -> x.result(true));
        Queueward y = new Queueward();
        CHECK.dueFraction("mean without comings", y, 0, 1, () -> y.numbers(0, -1));
        CHECK.dueFraction("surely none without comings", y, 1, 1, () -> y.numbers(0, 0));
        CHECK.dueFraction("never one without comings", y, 0, 1, () -> y.numbers(0, 1));
    }

    private static void growths() {
        CHECK.promise(32);
        Queueward x = net(new int[] {10, 4, 0, 100}, new int[] {0, 3, 0, 0});
        CHECK.dueFraction("more than it serves", x, 6, 1, () -> x.growth(0));
        CHECK.dueFraction("only what is served comes on", x, 1, 1, () -> x.growth(1));
        x.node(0, 10, 10);
        CHECK.dueFraction("the same as it serves", x, 0, 1, () -> x.growth(0));
        CHECK.dueFraction("more comes on", x, 7, 1, () -> x.growth(1));
        CHECK.due("node -1", Check.INDEX, () -> x.growth(-1));
        CHECK.due("node 2", Check.INDEX, () -> x.growth(2));
        Queueward y = net(new int[] {4, 5, 0, 100}, new int[] {0, 10, 50, 0});
        CHECK.dueFraction("with those who come back", y, 3, 2, () -> y.growth(0));
        CHECK.dueFraction("stable behind it", y, 0, 1, () -> y.growth(1));
        y.node(1, 0, 4);
        CHECK.dueFraction("both grow", y, 1, 1, () -> y.growth(0));
        CHECK.dueFraction("both grow", y, 1, 1, () -> y.growth(1));
        Queueward z = net(new int[] {1, 1, 0, 33, 33}, new int[] {1, 1, 33, 0, 33}, new int[] {0, 1000, 50, 49, 0});
        CHECK.dueFraction("three nodes", z, 33, 50, () -> z.growth(0));
        CHECK.dueFraction("three nodes", z, 3267, 5000, () -> z.growth(1));
        CHECK.dueFraction("three nodes", z, 0, 1, () -> z.growth(2));
        growthsThatAreLate();
    }

    /** It takes a round for each node to find those that are not full, one behind the other. */
    private static void growthsThatAreLate() {
        Queueward x = net(new int[] {1, 2, 0, 100, 0, 0}, new int[] {0, 2, 0, 0, 100, 0},
            new int[] {0, 2, 0, 0, 0, 100}, new int[] {0, 2, 0, 0, 0, 0});
        x.node(1, 0, 3);
        for (int node = 0; node < 4; node++) {
            int at = node;
            CHECK.dueFraction("not full", x, 0, 1, () -> x.growth(at));
        }
        Queueward y = net(new int[] {1, 6, 0, 100, 0, 0}, new int[] {0, 5, 0, 0, 100, 0},
            new int[] {0, 4, 0, 0, 0, 100}, new int[] {2, 2, 0, 0, 0, 0});
        CHECK.dueFraction("full at last", y, 1, 1, () -> y.growth(3));
        CHECK.dueFraction("not full", y, 0, 1, () -> y.growth(2));
        CHECK.dueFraction("the rates agree", y, 3, 1, () -> y.rate(3));
    }

    private static void closedNets() {
        CHECK.promise(33);
        Queueward x = net(new int[] {0, 1, 0, 100}, new int[] {0, 2, 100, 0});
        CHECK.dueFraction("one job", x, 2, 3, () -> x.closed(1, 0));
        CHECK.dueFraction("one job", x, 1, 3, () -> x.closed(1, 1));
        CHECK.dueFraction("two jobs", x, 10, 7, () -> x.closed(2, 0));
        CHECK.dueFraction("two jobs", x, 4, 7, () -> x.closed(2, 1));
        CHECK.dueFraction("three jobs", x, 34, 15, () -> x.closed(3, 0));
        CHECK.dueFraction("three jobs", x, 11, 15, () -> x.closed(3, 1));
        CHECK.due("node -1", Check.INDEX, () -> x.closed(1, -1));
        CHECK.due("node 2", Check.INDEX, () -> x.closed(1, 2));
        CHECK.due("jobs 0", Check.ARGUMENT, () -> x.closed(0, 0));
        CHECK.due("jobs 4", Check.ARGUMENT, () -> x.closed(4, 0));
        CHECK.due("both wrong", Check.INDEX, () -> x.closed(4, 2));
        CHECK.due("the result stays", 11L, () -> x.result(false));
        CHECK.due("errors", 0, x::errors);
        Queueward y = net(new int[] {0, 6, 50, 50, 0}, new int[] {0, 1, 25, 25, 50}, new int[] {0, 9, 100, 0, 0});
        CHECK.dueFraction("with ways to itself: loads 9 : 36 : 2", y, 9, 47, () -> y.closed(1, 0));
        CHECK.dueFraction("with ways to itself: loads 9 : 36 : 2", y, 36, 47, () -> y.closed(1, 1));
        CHECK.dueFraction("with ways to itself: loads 9 : 36 : 2", y, 2, 47, () -> y.closed(1, 2));
        CHECK.due("errors", 0, y::errors);
        Queueward z = net(new int[] {0, 7, 100});
        CHECK.dueFraction("all jobs at the one node", z, 3, 1, () -> z.closed(3, 0));
    }

    private static void netsThatAreNotClosed() {
        Queueward x = net(new int[] {1, 1, 0, 100}, new int[] {0, 2, 100, 0});
        CHECK.due("comings", Check.STATE, () -> x.closed(1, 0));
        CHECK.due("comings, and jobs 4", Check.ARGUMENT, () -> x.closed(4, 0));
        CHECK.due("comings, and no node", Check.INDEX, () -> x.closed(1, 2));
        x.node(0, 0, 1);
        CHECK.due("closed", 1, () -> x.closed(1, 0));
        x.way(1, 0, 99);
        CHECK.due("some leave", Check.STATE, () -> x.closed(1, 0));
        Queueward y = net(new int[] {0, 1, 100, 0}, new int[] {0, 2, 0, 100});
        CHECK.due("two nets", Check.STATE, () -> y.closed(1, 0));
        y.way(0, 0, 0);
        y.way(0, 1, 100);
        CHECK.due("no way back", Check.STATE, () -> y.closed(1, 1));
        CHECK.due("errors asks a closed one only", 0, y::errors);
        CHECK.due("a new net", Check.STATE, () -> new Queueward().closed(1, 0));
    }

    /** The greatest nets, looked at to the last digit, against the model. */
    private static void greatNets() {
        Random random = new Random(11);
        for (int round = 0; round < 80; round++) {
            boolean isClosed = round % 2 == 0;
            int nodes = 2 + random.nextInt(3);
            Queueward x = new Queueward();
            Model model = new Model();
            x.net(nodes);
            model.net(nodes);
            for (int from = 0; from < nodes; from++) {
                int[] percents = new int[nodes];
                for (int part = isClosed ? 0 : 1 + random.nextInt(60); part < 100; part++) {
                    percents[part < 5 ? (from + 1) % nodes : random.nextInt(nodes)]++;
                }
                int come = isClosed ? 0 : random.nextInt(80);
                int serves = 1000 - random.nextInt(random.nextInt(900) + 1);
                x.node(from, come, serves);
                model.node(from, come, serves);
                for (int to = 0; to < nodes; to++) {
                    x.way(from, to, percents[to]);
                    model.way(from, to, percents[to]);
                }
            }
            int node = random.nextInt(nodes);
            if (isClosed) {
                closedByModel(x, model, 1 + round / 2 % 3, node);
            } else {
                openByModel(x, model, node, random.nextInt(10));
            }
        }
    }

    private static void closedByModel(Queueward x, Model model, int jobs, int node) {
        CHECK.promise(33);
        model.closed(jobs, node);
        CHECK.dueText("mean of " + jobs, x, model.text(), () -> x.closed(jobs, node));
        CHECK.promise(43);
        CHECK.due("errors", 0, x::errors);
    }

    private static void openByModel(Queueward x, Model model, int node, int many) {
        CHECK.promise(29);
        model.rate(node);
        CHECK.dueText("rate", x, model.text(), () -> x.rate(node));
        CHECK.promise(32);
        model.growth(node);
        CHECK.dueText("growth", x, model.text(), () -> x.growth(node));
        CHECK.promise(31);
        if (model.isStable(node)) {
            model.numbers(node, -1);
            CHECK.dueText("mean", x, model.text(), () -> x.numbers(node, -1));
            model.numbers(node, many);
            CHECK.dueText("chance of " + many, x, model.text(), () -> x.numbers(node, many));
        } else {
            CHECK.due("not stable", Check.NO_SUCH, () -> x.numbers(node, many));
        }
    }
}
