import java.util.Random;

/** Promises 17 to 23: chains of states. */
public final class ChainsTest {
    private static final Check CHECK = new Check("ChainsTest");

    public static void main(String[] args) {
        making();
        chances();
        groups();
        longShares();
        reaching();
        times();
        timesThatAreNotThere();
        behind();
        unlawful();
        greatChains();
        seldomDivisions();
        CHECK.end();
    }

    /** A chain told row by row. */
    private static Queueward chain(int base, int[][] rows) {
        Queueward x = new Queueward();
        x.states(rows.length, base);
        for (int from = 0; from < rows.length; from++) {
            for (int to = 0; to < rows.length; to++) {
                x.chance(from, to, rows[from][to]);
            }
        }
        return x;
    }

    /** Up or down with the same chance, until 0 or 3. */
    private static Queueward ruin() {
        return chain(2, new int[][] {{2, 0, 0, 0}, {1, 0, 1, 0}, {0, 1, 0, 1}, {0, 0, 0, 2}});
    }

    /** Up or down with the same chance, from 0 to 6 and back. */
    private static Queueward walk() {
        int[][] rows = new int[7][7];
        for (int state = 0; state < 7; state++) {
            rows[state][state == 0 ? 1 : state - 1]++;
            rows[state][state == 6 ? 5 : state + 1]++;
        }
        return chain(2, rows);
    }

    private static void making() {
        CHECK.promise(17);
        Queueward x = new Queueward();
        CHECK.due("states before", 1, () -> x.states(7, 100));
        CHECK.due("states before", 7, () -> x.states(3, 1));
        CHECK.due("states 0", Check.ARGUMENT, () -> x.states(0, 1));
        CHECK.due("states 8", Check.ARGUMENT, () -> x.states(8, 1));
        CHECK.due("base 0", Check.ARGUMENT, () -> x.states(1, 0));
        CHECK.due("base 101", Check.ARGUMENT, () -> x.states(1, 101));
        CHECK.due("three groups still", 3, () -> x.group(-1));
        CHECK.due("base 1 still", Check.ARGUMENT, () -> x.chance(0, 0, 2));
        x.chance(0, 1, 1);
        x.chance(0, 0, 0);
        CHECK.due("states before", 3, () -> x.states(3, 5));
        CHECK.due("each state stays", 3, () -> x.group(-1));
        CHECK.due("base 5", 5, () -> x.chance(2, 2, 5));
        CHECK.due("each with its own group", 2, () -> x.group(2));
        CHECK.dueFraction("stays", x, 1, 1, () -> x.behind(2, 2, 60));
        CHECK.dueFraction("leads nowhere", x, 0, 1, () -> x.behind(0, 1, 60));
    }

    private static void chances() {
        CHECK.promise(18);
        Queueward x = new Queueward();
        x.states(3, 10);
        CHECK.due("the sum then", 14, () -> x.chance(0, 1, 4));
        CHECK.due("the sum then", 24, () -> x.chance(0, 2, 10));
        CHECK.due("set anew", 23, () -> x.chance(0, 1, 3));
        CHECK.due("set anew", 24, () -> x.chance(0, 1, 4));
        CHECK.due("to itself", 14, () -> x.chance(0, 0, 0));
        CHECK.due("of another state", 10, () -> x.chance(1, 1, 10));
        CHECK.due("from -1", Check.INDEX, () -> x.chance(-1, 0, 0));
        CHECK.due("from 3", Check.INDEX, () -> x.chance(3, 0, 0));
        CHECK.due("to -1", Check.INDEX, () -> x.chance(0, -1, 0));
        CHECK.due("to 3", Check.INDEX, () -> x.chance(0, 3, 0));
        CHECK.due("parts -1", Check.ARGUMENT, () -> x.chance(0, 0, -1));
        CHECK.due("parts 11", Check.ARGUMENT, () -> x.chance(0, 0, 11));
        CHECK.due("both wrong", Check.INDEX, () -> x.chance(3, 0, 11));
        CHECK.due("all stay", 14, () -> x.chance(0, 0, 0));
        x.chance(0, 2, 6);
        CHECK.dueFraction("by the base", x, 2, 5, () -> x.behind(0, 1, 1));
        CHECK.dueFraction("by the base", x, 3, 5, () -> x.behind(0, 2, 1));
    }

    private static void groups() {
        CHECK.promise(19);
        Queueward x = chain(1, new int[][] {
            {0, 1, 0, 0, 0, 0}, {0, 0, 0, 0, 1, 0}, {0, 0, 0, 0, 0, 1},
            {0, 0, 0, 1, 0, 0}, {0, 1, 0, 0, 0, 0}, {0, 0, 1, 0, 0, 0}});
        CHECK.due("how many", 3, () -> x.group(Queueward.NONE));
        int[] due = {-1, 0, 1, 2, 0, 1};
        for (int state = 0; state < due.length; state++) {
            int at = state;
            CHECK.due("group of " + at, due[at], () -> x.group(at));
        }
        CHECK.due("state -2", Check.INDEX, () -> x.group(-2));
        CHECK.due("state 6", Check.INDEX, () -> x.group(6));
        Queueward y = ruin();
        CHECK.due("ruin or not", 2, () -> y.group(-1));
        CHECK.due("ruin", 0, () -> y.group(0));
        CHECK.due("between", -1, () -> y.group(1));
        CHECK.due("between", -1, () -> y.group(2));
        CHECK.due("not", 1, () -> y.group(3));
        Queueward z = walk();
        CHECK.due("all in one", 1, () -> z.group(-1));
        CHECK.due("all in one", 0, () -> z.group(6));
        Queueward w = chain(3, new int[][] {{1, 2, 0}, {2, 0, 1}, {0, 0, 3}});
        CHECK.due("those that lead to each other, but outside too", -1, () -> w.group(0));
        CHECK.due("the one outside", 0, () -> w.group(2));
        for (int least = 0; least < 7; least++) {
            oneThatStays(least);
        }
    }

    /** All others lead to it alone: it is the one group. */
    private static void oneThatStays(int one) {
        int[][] rows = new int[7][7];
        for (int[] row : rows) {
            row[one] = 1;
        }
        Queueward x = chain(1, rows);
        CHECK.due("how many", 1, () -> x.group(Queueward.NONE));
        for (int state = 0; state < 7; state++) {
            int at = state;
            CHECK.due("group of " + at, at == one ? 0 : -1, () -> x.group(at));
            CHECK.due("share of " + at, at == one ? 1 : 0, () -> x.longShare(at));
            CHECK.due("reached from " + at, 1, () -> x.reach(at, one));
            CHECK.due("never left for " + at, at == one ? 1 : 0, () -> x.reach(one, at));
            CHECK.dueFraction("time from " + at, x, at == one ? 0 : 1, 1, () -> x.timeTo(at, one));
            CHECK.due("never left for " + at, at == one ? (Object) 0 : Check.NO_SUCH, () -> x.timeTo(one, at));
        }
    }

    private static void longShares() {
        CHECK.promise(20);
        Queueward x = walk();
        CHECK.dueFraction("at the end", x, 1, 12, () -> x.longShare(0));
        CHECK.dueFraction("inside", x, 1, 6, () -> x.longShare(3));
        CHECK.dueFraction("at the other end", x, 1, 12, () -> x.longShare(6));
        CHECK.due("state -1", Check.INDEX, () -> x.longShare(-1));
        CHECK.due("state 7", Check.INDEX, () -> x.longShare(7));
        Queueward y = chain(10, new int[][] {
            {0, 0, 10, 0, 0}, {0, 7, 0, 3, 0}, {4, 0, 6, 0, 0}, {0, 1, 0, 9, 0}, {1, 2, 3, 4, 0}});
        CHECK.dueFraction("2 / 7 in its group", y, 2, 7, () -> y.longShare(0));
        CHECK.dueFraction("5 / 7 in its group", y, 5, 7, () -> y.longShare(2));
        CHECK.dueFraction("1 / 4 in the other group", y, 1, 4, () -> y.longShare(1));
        CHECK.dueFraction("3 / 4 in the other group", y, 3, 4, () -> y.longShare(3));
        CHECK.dueFraction("in no group", y, 0, 1, () -> y.longShare(4));
        Queueward z = new Queueward();
        CHECK.dueFraction("of a state that stays", z, 1, 1, () -> z.longShare(0));
        CHECK.due("errors of these", 0, y::errors);
    }

    private static void reaching() {
        CHECK.promise(21);
        Queueward x = ruin();
        CHECK.dueFraction("one of three", x, 1, 3, () -> x.reach(1, 3));
        CHECK.dueFraction("two of three", x, 2, 3, () -> x.reach(1, 0));
        CHECK.dueFraction("two of three", x, 2, 3, () -> x.reach(2, 3));
        CHECK.dueFraction("between", x, 1, 2, () -> x.reach(2, 1));
        CHECK.dueFraction("back from an end", x, 0, 1, () -> x.reach(0, 1));
        CHECK.dueFraction("itself, at the step 0", x, 1, 1, () -> x.reach(1, 1));
        CHECK.due("from -1", Check.INDEX, () -> x.reach(-1, 0));
        CHECK.due("from 4", Check.INDEX, () -> x.reach(4, 0));
        CHECK.due("to -1", Check.INDEX, () -> x.reach(0, -1));
        CHECK.due("to 4", Check.INDEX, () -> x.reach(0, 4));
        Queueward y = walk();
        CHECK.dueFraction("surely", y, 1, 1, () -> y.reach(0, 6));
        Queueward z = chain(10, new int[][] {{5, 1, 4}, {0, 10, 0}, {0, 3, 7}});
        CHECK.dueFraction("by two ways", z, 1, 1, () -> z.reach(0, 1));
        CHECK.dueFraction("by the other one", z, 4, 5, () -> z.reach(0, 2));
    }

    private static void times() {
        CHECK.promise(22);
        Queueward x = walk();
        CHECK.dueFraction("all the way", x, 36, 1, () -> x.timeTo(0, 6));
        CHECK.dueFraction("from the middle", x, 27, 1, () -> x.timeTo(3, 6));
        CHECK.dueFraction("down", x, 35, 1, () -> x.timeTo(5, 0));
        CHECK.dueFraction("itself", x, 0, 1, () -> x.timeTo(4, 4));
        CHECK.due("from -1", Check.INDEX, () -> x.timeTo(-1, 0));
        CHECK.due("from 7", Check.INDEX, () -> x.timeTo(7, 0));
        CHECK.due("to -1", Check.INDEX, () -> x.timeTo(0, -1));
        CHECK.due("to 7", Check.INDEX, () -> x.timeTo(0, 7));
        Queueward y = chain(100, new int[][] {{97, 3}, {0, 100}});
        CHECK.dueFraction("a fraction", y, 100, 3, () -> y.timeTo(0, 1));
        Queueward z = chain(10, new int[][] {{5, 1, 4}, {0, 10, 0}, {0, 3, 7}});
        CHECK.dueFraction("by two ways", z, 14, 3, () -> z.timeTo(0, 1));
    }

    private static void timesThatAreNotThere() {
        Queueward x = ruin();
        CHECK.due("not surely", Check.NO_SUCH, () -> x.timeTo(1, 3));
        CHECK.due("never", Check.NO_SUCH, () -> x.timeTo(0, 3));
        CHECK.dueFraction("itself, even then", x, 0, 1, () -> x.timeTo(1, 1));
        Queueward y = chain(1, new int[][] {{0, 1, 0}, {0, 0, 1}, {0, 0, 1}});
        CHECK.dueFraction("the way ends there, though it leads on", y, 1, 1, () -> y.timeTo(0, 1));
        CHECK.dueFraction("on", y, 2, 1, () -> y.timeTo(0, 2));
        CHECK.due("back", Check.NO_SUCH, () -> y.timeTo(2, 1));
        Queueward z = chain(4, new int[][] {{1, 1, 2, 0}, {0, 0, 0, 4}, {0, 1, 3, 0}, {0, 0, 0, 4}});
        CHECK.dueFraction("some states do not lead back, but are not on the way", z, 4, 1, () -> z.timeTo(0, 1));
        CHECK.due("the result stays", Check.NO_SUCH, () -> z.timeTo(0, 2));
        CHECK.due("the result stays", 4L, () -> z.result(false));
    }

    private static void behind() {
        CHECK.promise(23);
        Queueward x = ruin();
        CHECK.dueFraction("no step", x, 0, 1, () -> x.behind(1, 2, 0));
        CHECK.dueFraction("no step, itself", x, 1, 1, () -> x.behind(1, 1, 0));
        CHECK.dueFraction("a step", x, 1, 2, () -> x.behind(1, 2, 1));
        CHECK.dueFraction("two steps", x, 1, 4, () -> x.behind(1, 3, 2));
        CHECK.dueFraction("three steps", x, 5, 8, () -> x.behind(1, 0, 3));
        CHECK.dueFraction("60 steps", x, 1, 1L << 60, () -> x.behind(1, 1, 60));
        CHECK.due("from -1", Check.INDEX, () -> x.behind(-1, 0, 0));
        CHECK.due("from 4", Check.INDEX, () -> x.behind(4, 0, 0));
        CHECK.due("to -1", Check.INDEX, () -> x.behind(0, -1, 0));
        CHECK.due("to 4", Check.INDEX, () -> x.behind(0, 4, 0));
        CHECK.due("steps -1", Check.ARGUMENT, () -> x.behind(0, 0, -1));
        CHECK.due("steps 61", Check.ARGUMENT, () -> x.behind(0, 0, 61));
        CHECK.due("both wrong", Check.INDEX, () -> x.behind(4, 0, 61));
        CHECK.due("the result stays", 1L << 60, () -> x.result(true));
        Queueward y = walk();
        CHECK.dueFraction("straight on", y, 1, 32, () -> y.behind(0, 6, 6));
    }

    private static void unlawful() {
        Queueward x = walk();
        x.longShare(0);
        x.chance(3, 3, 1);
        CHECK.promise(19);
        CHECK.due("not lawful", Check.NO_SUCH, () -> x.group(-1));
        CHECK.due("not lawful, and no state", Check.INDEX, () -> x.group(7));
        CHECK.promise(20);
        CHECK.due("not lawful", Check.NO_SUCH, () -> x.longShare(0));
        CHECK.due("not lawful, and no state", Check.INDEX, () -> x.longShare(7));
        CHECK.promise(21);
        CHECK.due("not lawful", Check.NO_SUCH, () -> x.reach(0, 0));
        CHECK.due("not lawful, and no state", Check.INDEX, () -> x.reach(0, 7));
        CHECK.promise(22);
        CHECK.due("not lawful", Check.NO_SUCH, () -> x.timeTo(0, 0));
        CHECK.due("not lawful, and no state", Check.INDEX, () -> x.timeTo(7, 0));
        CHECK.promise(23);
        CHECK.due("not lawful", Check.NO_SUCH, () -> x.behind(0, 0, 0));
        CHECK.due("not lawful, and too many steps", Check.ARGUMENT, () -> x.behind(0, 0, 61));
        CHECK.due("not lawful, and no state", Check.INDEX, () -> x.behind(0, 7, 0));
        CHECK.due("the result stays", 12L, () -> x.result(true));
        CHECK.due("errors asks a lawful one only", 0, x::errors);
        x.chance(3, 2, 0);
        CHECK.due("lawful again", 0, () -> x.group(-1) - 1);
        Queueward y = new Queueward();
        y.chance(0, 0, 0);
        CHECK.due("less than the base", Check.NO_SUCH, () -> y.group(0));
    }

    /** Here a long division that guesses its digits by the highest ones guesses one of them too high. */
    private static void seldomDivisions() {
        CHECK.promise(23);
        int[][] all = {{99, 45, 26, 1, 0}, {83, 50, 32, 1, 1}, {97, 45, 60, 0, 0}, {77, 37, 4, 0, 1}, {73, 43, 30, 1, 1}};
        for (int[] one : all) {
            int[][] rows = {{one[1], one[0] - one[1]}, {one[2], one[0] - one[2]}};
            Queueward x = chain(one[0], rows);
            Model model = new Model();
            model.states(2, one[0]);
            for (int i = 0; i < 4; i++) {
                model.chance(i / 2, i % 2, rows[i / 2][i % 2]);
            }
            model.behind(one[3], one[4], 60);
            CHECK.dueText("behind 60 steps, by " + one[0], x, model.text(), () -> x.behind(one[3], one[4], 60));
        }
    }

    /** The greatest chains, looked at to the last digit, against the model. */
    private static void greatChains() {
        Random random = new Random(7);
        for (int round = 0; round < 60; round++) {
            int states = 4 + random.nextInt(4);
            int[][] rows = new int[states][states];
            for (int[] row : rows) {
                for (int part = 0; part < 100; part++) {
                    row[random.nextInt(3) == 0 ? random.nextInt(states) : Math.min(part / 10, states - 1)]++;
                }
            }
            Queueward x = chain(100, rows);
            Model model = new Model();
            model.states(states, 100);
            for (int from = 0; from < states; from++) {
                for (int to = 0; to < states; to++) {
                    model.chance(from, to, rows[from][to]);
                }
            }
            int from = random.nextInt(states);
            int to = random.nextInt(states);
            int steps = round < 20 ? 60 : random.nextInt(61);
            CHECK.promise(20);
            model.longShare(from);
            CHECK.dueText("long share", x, model.text(), () -> x.longShare(from));
            CHECK.promise(21);
            model.reach(from, to);
            CHECK.dueText("reach", x, model.text(), () -> x.reach(from, to));
            CHECK.promise(22);
            model.timeTo(from, to);
            CHECK.dueText("time", x, model.text(), () -> x.timeTo(from, to));
            CHECK.promise(23);
            model.behind(from, to, steps);
            CHECK.dueText("behind", x, model.text(), () -> x.behind(from, to, steps));
        }
    }
}
