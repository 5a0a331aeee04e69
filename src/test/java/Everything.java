import java.util.ArrayList;
import java.util.List;

/**
 * All that can be asked of an object, as a row of answers: two objects that differ anywhere in what was told to them
 * answer differently somewhere. Asking it all changes the object, and needs some 380 of its 512 calls.
 */
final class Everything {
    private static final int[] PLACES = {0, 1, 2, 3, 4, 5, 6, 7, 8, 9, 10, 11, 12, 892, 897, 898, 899, 900};
    private static final int[] JOBS = {0, 1, 2, 3, 22, 23};

    private final Queueward x;
    private final List<Object> answers = new ArrayList<>();

    private Everything(Queueward x) {
        this.x = x;
    }

    static List<Object> of(Queueward x) {
        Everything all = new Everything(x);
        all.askResult();
        all.askTape();
        all.askJobs();
        all.askChain();
        all.askNet();
        all.askOthers();
        all.askByChanging();
        all.askChanges();
        return all.answers;
    }

    private void ask(Check.Call call) {
        answers.add(Check.answerOf(call));
    }

    private void askFraction(Check.Call call) {
        ask(call);
        askResult();
    }

    private void askResult() {
        ask(() -> x.result(false));
        ask(() -> x.result(true));
    }

    private void askTape() {
        ask(() -> x.type(0));
        ask(x::fault);
        for (int place : PLACES) {
            ask(() -> x.signAt(place));
        }
    }

    private void askJobs() {
        for (int job : JOBS) {
            for (int what = 0; what < 8; what++) {
                int asked = what;
                ask(() -> x.jobAt(job, asked));
            }
        }
        for (int tick = 0; tick < 13; tick++) {
            int at = tick;
            ask(() -> x.numberAt(at));
        }
        ask(() -> x.sumTimes(false));
        ask(() -> x.sumTimes(true));
        ask(x::mean);
        ask(x::doneShare);
        ask(x::errors);
        for (int kind = -1; kind < 3; kind++) {
            int of = kind;
            askFraction(() -> x.meanTime(of));
        }
    }

    private void askChain() {
        for (int state = -1; state < 4; state++) {
            int from = state;
            ask(() -> x.group(from));
            askFraction(() -> x.longShare(from));
        }
        for (int way = 0; way < 9; way++) {
            int from = way / 3;
            int to = way % 3;
            askFraction(() -> x.reach(from, to));
            askFraction(() -> x.timeTo(from, to));
            askFraction(() -> x.behind(from, to, 2));
        }
    }

    private void askNet() {
        for (int node = 0; node < 4; node++) {
            int at = node;
            ask(() -> x.isStable(at));
            askFraction(() -> x.rate(at));
            askFraction(() -> x.numbers(at, -1));
            askFraction(() -> x.growth(at));
            askFraction(() -> x.closed(2, at));
        }
    }

    private void askOthers() {
        ask(x::fits);
        askFraction(() -> x.bound(false));
        askFraction(() -> x.bound(true));
        for (int line = 0; line < 3; line++) {
            int of = line;
            ask(() -> x.split(7, of, false));
            ask(() -> x.split(7, of, true));
        }
        askFraction(() -> x.price(9));
    }

    /** What only a call that sets something tells: sums, and what there was before. */
    private void askByChanging() {
        for (int at = 0; at < 4; at++) {
            int index = at;
            ask(() -> x.chance(index, index, 0));
            ask(() -> x.way(index, index, 0));
            ask(() -> x.node(index, 0, 1));
            ask(() -> x.option(index, 0, 0));
        }
        ask(() -> x.states(1, 1));
        ask(() -> x.net(1));
        ask(() -> x.envelope(0, 0, 1));
        ask(() -> x.line(1, 0, 24, 999));
        ask(x::wipe);
    }

    private void askChanges() {
        for (int change = 0; change < 21; change++) {
            ask(x::undo);
            ask(() -> x.jobAt(0, 4));
            ask(() -> x.jobAt(2, 5));
            ask(x::mean);
        }
    }
}
