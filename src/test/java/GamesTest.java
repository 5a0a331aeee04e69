import java.util.Random;

/** Promises 38 to 40: games of those who choose a line. */
public final class GamesTest {
    private static final Check CHECK = new Check("GamesTest");

    public static void main(String[] args) {
        options();
        splits();
        equalLines();
        prices();
        manyGames();
        CHECK.end();
    }

    private static Queueward game(int... constantsAndSlopes) {
        Queueward x = new Queueward();
        for (int line = 0; line < 3; line++) {
            x.option(line, constantsAndSlopes[2 * line], constantsAndSlopes[2 * line + 1]);
        }
        return x;
    }

    private static void split(Queueward x, int players, boolean isBest, int... due) {
        for (int line = 0; line < 3; line++) {
            int at = line;
            CHECK.due((isBest ? "best" : "balanced") + " split of " + players + ", line " + at, due[at],
                () -> x.split(players, at, isBest));
        }
    }

    private static void options() {
        CHECK.promise(38);
        Queueward x = new Queueward();
        CHECK.due("constant before", 0, () -> x.option(0, 999, 99));
        CHECK.due("constant before", 999, () -> x.option(0, 5, 0));
        CHECK.due("constant before", 5, () -> x.option(0, 0, 7));
        CHECK.due("constant before", 0, () -> x.option(2, 8, 1));
        CHECK.due("line -1", Check.ARGUMENT, () -> x.option(-1, 0, 0));
        CHECK.due("line 3", Check.ARGUMENT, () -> x.option(3, 0, 0));
        CHECK.due("constant -1", Check.ARGUMENT, () -> x.option(2, -1, 0));
        CHECK.due("constant 1000", Check.ARGUMENT, () -> x.option(2, 1000, 0));
        CHECK.due("slope -1", Check.ARGUMENT, () -> x.option(2, 0, -1));
        CHECK.due("slope 100", Check.ARGUMENT, () -> x.option(2, 0, 100));
        CHECK.due("of another line", 0, () -> x.option(1, 7, 1));
        split(x, 4, false, 1, 2, 1);
        CHECK.due("constant before", 8, () -> x.option(2, 8, 0));
        split(x, 4, false, 1, 1, 2);
    }

    private static void splits() {
        CHECK.promise(39);
        Queueward x = game(10, 0, 0, 1, 999, 99);
        split(x, 1, false, 0, 1, 0);
        split(x, 9, false, 0, 9, 0);
        split(x, 10, false, 1, 9, 0);
        split(x, 30, false, 21, 9, 0);
        split(x, 5, true, 0, 5, 0);
        split(x, 6, true, 1, 5, 0);
        split(x, 30, true, 25, 5, 0);
        CHECK.due("players 0", Check.ARGUMENT, () -> x.split(0, 0, false));
        CHECK.due("players 31", Check.ARGUMENT, () -> x.split(31, 0, true));
        CHECK.due("line -1", Check.ARGUMENT, () -> x.split(1, -1, false));
        CHECK.due("line 3", Check.ARGUMENT, () -> x.split(1, 3, true));
        Queueward y = game(50, 3, 20, 5, 0, 9);
        split(y, 7, false, 0, 3, 4);
        split(y, 7, true, 1, 3, 3);
        CHECK.due("comes to no fraction", 0L, () -> y.result(false));
    }

    private static void equalLines() {
        Queueward x = game(0, 1, 0, 1, 0, 1);
        split(x, 1, false, 1, 0, 0);
        split(x, 2, false, 1, 1, 0);
        split(x, 5, false, 2, 2, 1);
        split(x, 4, true, 2, 1, 1);
        split(x, 30, true, 10, 10, 10);
        Queueward y = game(3, 0, 2, 0, 2, 0);
        split(y, 6, false, 0, 6, 0);
        split(y, 6, true, 0, 6, 0);
        Queueward z = new Queueward();
        split(z, 30, false, 30, 0, 0);
        split(z, 30, true, 30, 0, 0);
    }

    private static void prices() {
        CHECK.promise(40);
        Queueward x = game(10, 0, 0, 1, 999, 99);
        CHECK.dueFraction("ten", x, 91, 75, () -> x.price(10));
        CHECK.dueFraction("one", x, 1, 1, () -> x.price(1));
        CHECK.dueFraction("30", x, 291, 275, () -> x.price(30));
        CHECK.due("players 0", Check.ARGUMENT, () -> x.price(0));
        CHECK.due("players 31", Check.ARGUMENT, () -> x.price(31));
        CHECK.due("the result stays", 275L, () -> x.result(true));
        Queueward y = new Queueward();
        CHECK.dueFraction("all pay nothing", y, 1, 1, () -> y.price(30));
        y.option(0, 4, 4);
        CHECK.dueFraction("all pay nothing in another line", y, 1, 1, () -> y.price(30));
        Queueward z = game(999, 99, 999, 99, 999, 99);
        CHECK.dueFraction("the greatest", z, 1, 1, () -> z.price(30));
    }

    /** Against the model, which finds the least sums by summing up. */
    private static void manyGames() {
        Random random = new Random(5);
        for (int round = 0; round < 300; round++) {
            Queueward x = new Queueward();
            Model model = new Model();
            for (int line = 0; line < 3; line++) {
                int constant = random.nextInt(round % 2 == 0 ? 1000 : 12);
                int slope = random.nextInt(round % 3 == 0 ? 100 : 4);
                x.option(line, constant, slope);
                model.option(line, constant, slope);
            }
            int players = 1 + random.nextInt(30);
            int line = random.nextInt(3);
            CHECK.promise(39);
            CHECK.due("balanced", model.split(players, line, false), () -> x.split(players, line, false));
            CHECK.due("best", model.split(players, line, true), () -> x.split(players, line, true));
            CHECK.promise(40);
            model.price(players);
            CHECK.dueText("price", x, model.text(), () -> x.price(players));
            CHECK.promise(43);
            CHECK.due("errors", 0, x::errors);
        }
    }
}
