/** Promises 1 to 8: a new object, fractions and the tape. */
public final class TapeTest {
    private static final Check CHECK = new Check("TapeTest");

    public static void main(String[] args) {
        newObject();
        results();
        writing();
        typing();
        wiping();
        signs();
        faults();
        faultsAtEachSign();
        faultsOfFullTapes();
        readings();
        readingAllOrNone();
        CHECK.end();
    }

    private static void newObject() {
        CHECK.promise(1);
        Queueward x = new Queueward();
        CHECK.due("the constant", -1, () -> Queueward.NONE);
        CHECK.due("result above", 0L, () -> x.result(false));
        CHECK.due("result below", 1L, () -> x.result(true));
        CHECK.due("the tape is empty", 0, x::wipe);
        CHECK.due("no jobs", Check.INDEX, () -> x.jobAt(0, 0));
        CHECK.due("nothing to undo", Check.NO_SUCH, x::undo);
        CHECK.due("rule", 0, () -> x.line(1, 0, 24, 999));
        CHECK.due("one group", 1, () -> x.group(-1));
        CHECK.due("the state stays", 0, () -> x.group(0));
        CHECK.due("no second state", Check.INDEX, () -> x.group(1));
        CHECK.due("base 1", Check.ARGUMENT, () -> x.chance(0, 0, 2));
        CHECK.due("one state", 1, () -> x.states(1, 1));
        CHECK.due("no second node", Check.INDEX, () -> x.rate(1));
        CHECK.due("stable", true, () -> x.isStable(0));
        CHECK.due("comings", 0, () -> x.node(0, 1, 2));
        CHECK.due("one node", 1, () -> x.net(1));
        CHECK.due("no servers, no bound", Check.NO_SUCH, () -> x.bound(true));
        CHECK.due("first server", 1, () -> x.server(3, 1, 99));
        CHECK.dueFraction("burst 0", x, 3, 1, () -> x.bound(false));
        CHECK.dueFraction("rate 0", x, 0, 1, () -> x.bound(true));
        CHECK.due("fits", true, x::fits);
        CHECK.due("constant of a line", 0, () -> x.option(2, 0, 0));
        CHECK.due("errors", 0, x::errors);
        newLineAndService();
    }

    private static void newLineAndService() {
        Queueward x = new Queueward();
        x.node(0, 0, 1);
        x.come(0, 40, 0, 1);
        for (int job = 1; job < 24; job++) {
            x.come(0, 40, 0, 1);
        }
        CHECK.due("one server, room and patience for all, first come first served", 960, () -> x.jobAt(23, 2));
        CHECK.due("by their coming", 40, () -> x.jobAt(1, 1));
        Queueward y = new Queueward();
        y.way(0, 0, 50);
        y.node(0, 0, 1);
        CHECK.due("ways at first", 50, () -> y.way(0, 0, 50));
        Queueward z = new Queueward();
        CHECK.dueFraction("growth of a new node", z, 0, 1, () -> z.growth(0));
        CHECK.due("no ways", Check.STATE, () -> z.closed(1, 0));
        CHECK.due("all lines cost nothing", 30, () -> z.split(30, 0, false));
        CHECK.dueFraction("price of nothing", z, 1, 1, () -> z.price(30));
    }

    private static void results() {
        CHECK.promise(2);
        Queueward x = new Queueward();
        CHECK.dueFraction("without a common divisor", x, 999, 1000, () -> x.lostShare(1, 999, 1));
        CHECK.dueFraction("1 / 1", x, 1, 1, () -> x.lostShare(0, 7, 7));
        CHECK.dueFraction("0 / 1", x, 0, 1, () -> x.lostShare(5, 0, 7));
        x.lostShare(30, 998, 999);
        CHECK.due("too great above", Check.ARITHMETIC, () -> x.result(false));
        CHECK.due("too great below", Check.ARITHMETIC, () -> x.result(true));
        longsAtTheirEdge();
        powersOfTen();
        CHECK.due("an exception leaves the result", Check.ARGUMENT, () -> x.lostShare(31, 1, 1));
        CHECK.due("still too great", Check.ARITHMETIC, () -> x.result(true));
        x.lostShare(1, 3, 4);
        CHECK.due("an exception leaves the result", Check.NO_SUCH, () -> x.serversFor(999, 1, 0, 1));
        CHECK.due("above as before", 3L, () -> x.result(false));
        CHECK.due("below as before", 7L, () -> x.result(true));
        CHECK.due("serversFor comes to no fraction", 0, () -> x.serversFor(1, 1, 1, 1));
        CHECK.due("above as before", 3L, () -> x.result(false));
    }

    /** The greatest long, and numbers on both sides of it. */
    private static void longsAtTheirEdge() {
        Queueward x = new Queueward();
        x.states(2, 4);
        x.chance(0, 0, 3);
        x.chance(0, 1, 1);
        x.behind(0, 0, 31);
        CHECK.due("2 ^ 62", 1L << 62, () -> x.result(true));
        CHECK.due("3 ^ 31", 617673396283947L, () -> x.result(false));
        x.behind(0, 0, 32);
        CHECK.due("2 ^ 64", Check.ARITHMETIC, () -> x.result(true));
        CHECK.due("3 ^ 32", 1853020188851841L, () -> x.result(false));
        Queueward y = new Queueward();
        y.states(2, 8);
        y.chance(0, 0, 1);
        y.chance(0, 1, 7);
        y.behind(0, 1, 21);
        CHECK.due("2 ^ 63 - 1", Long.MAX_VALUE, () -> y.result(false));
        CHECK.due("2 ^ 63", Check.ARITHMETIC, () -> y.result(true));
        CHECK.due("written", 39, y::write);
        CHECK.due("on the tape", "9223372036854775807/9223372036854775808", () -> Check.tapeOf(y));
    }

    /** Those just above the longs have low digits that look like a long. */
    private static void powersOfTen() {
        Queueward x = new Queueward();
        x.states(2, 10);
        x.chance(0, 0, 1);
        x.chance(0, 1, 9);
        for (int steps = 0; steps <= 60; steps++) {
            int behind = steps;
            Object due = steps > 18 ? Check.ARITHMETIC : (Object) power(10, steps);
            CHECK.due("1 by 10 ^ " + steps, 1, () -> x.behind(0, 0, behind));
            CHECK.due("above the line", 1L, () -> x.result(false));
            CHECK.due("10 ^ " + steps, due, () -> x.result(true));
        }
        Queueward y = new Queueward();
        y.states(2, 100);
        y.chance(0, 0, 99);
        y.chance(0, 1, 1);
        for (int steps = 0; steps <= 60; steps++) {
            int behind = steps;
            y.behind(0, 0, steps);
            Object due = behind > 9 ? Check.ARITHMETIC : (Object) power(100, behind);
            CHECK.due("100 ^ " + steps, due, () -> y.result(true));
            CHECK.due("99 ^ " + steps, behind > 9 ? Check.ARITHMETIC : (Object) power(99, behind),
                () -> y.result(false));
        }
    }

    private static long power(long of, int exponent) {
        long power = 1;
        for (int i = 0; i < exponent; i++) {
            power *= of;
        }
        return power;
    }

    private static void writing() {
        CHECK.promise(3);
        Queueward x = new Queueward();
        Check.typeText(x, "what stood here");
        CHECK.due("0 / 1", 3, x::write);
        CHECK.due("the tape is the result", "0/1", () -> Check.tapeOf(x));
        x.lostShare(1, 999, 1);
        CHECK.due("length", 8, x::write);
        CHECK.due("digits", "999/1000", () -> Check.tapeOf(x));
        CHECK.dueText("more digits", x, "998001/1000001", () -> x.lostShare(2, 999, 1));
        CHECK.due("the result stays, above", 998001L, () -> x.result(false));
        CHECK.due("the result stays, below", 1000001L, () -> x.result(true));
        zerosInside();
    }

    private static void zerosInside() {
        Queueward x = new Queueward();
        x.states(2, 100);
        x.chance(0, 0, 1);
        x.chance(0, 1, 99);
        CHECK.dueText("zeros inside", x, "1/1000000000000000000000000", () -> x.behind(0, 0, 12));
        CHECK.dueText("nines", x, "999999999999999999/1000000000000000000", () -> x.behind(0, 1, 9));
        StringBuilder most = new StringBuilder("1/1");
        for (int i = 0; i < 120; i++) {
            most.append('0');
        }
        CHECK.dueText("the most digits", x, most.toString(), () -> x.behind(0, 0, 60));
    }

    private static void typing() {
        CHECK.promise(4);
        Queueward x = new Queueward();
        CHECK.due("no signs", 0, () -> x.type(0));
        CHECK.due("one sign", 1, () -> x.type(65));
        CHECK.due("the highest byte first", 4, () -> x.type(0x4200430000000044L));
        CHECK.due("behind the tape", "ABCD", () -> Check.tapeOf(x));
        CHECK.due("eight signs", 12, () -> x.type(0x2021222324257D7EL));
        CHECK.due("from 32 to 126", "ABCD !\"#$%}~", () -> Check.tapeOf(x));
        CHECK.due("31", Check.ARGUMENT, () -> x.type(31));
        CHECK.due("127", Check.ARGUMENT, () -> x.type(0x417FL));
        CHECK.due("128", Check.ARGUMENT, () -> x.type(0x8041L));
        CHECK.due("255 as the highest byte", Check.ARGUMENT, () -> x.type(-1L));
        CHECK.due("one as the highest byte", Check.ARGUMENT, () -> x.type(0x0141414141414141L));
        CHECK.due("nothing of it is typed", "ABCD !\"#$%}~", () -> Check.tapeOf(x));
        fullTape();
    }

    private static void fullTape() {
        Queueward x = new Queueward();
        for (int i = 0; i < 112; i++) {
            x.type(0x4142434445464748L);
        }
        CHECK.due("899 signs", 899, () -> x.type(0x61620063L));
        CHECK.due("too long", Check.STATE, () -> x.type(0x6162L));
        CHECK.due("a wrong byte comes first", Check.ARGUMENT, () -> x.type(0x610161L));
        CHECK.due("nothing of it is typed", Check.INDEX, () -> x.signAt(899));
        CHECK.due("900 signs", 900, () -> x.type(0x7EL));
        CHECK.due("no sign more", 900, () -> x.type(0));
        CHECK.due("too long", Check.STATE, () -> x.type(32));
        CHECK.due("the last sign", 126, () -> x.signAt(899));
        CHECK.due("its fault", 0, x::fault);
        CHECK.due("write takes its place", 3, x::write);
        CHECK.due("all of it", "0/1", () -> Check.tapeOf(x));
    }

    private static void wiping() {
        CHECK.promise(5);
        Queueward x = new Queueward();
        CHECK.due("an empty tape", 0, x::wipe);
        Check.typeText(x, "at 1 takes 1;");
        CHECK.due("its length", 13, x::wipe);
        CHECK.due("empty then", Check.INDEX, () -> x.signAt(0));
        CHECK.due("empty then", 0, x::wipe);
        CHECK.due("an empty tape has no fault", -1, x::fault);
        CHECK.due("typed anew", 1, () -> x.type(66));
        CHECK.due("typed anew", 66, () -> x.signAt(0));
    }

    private static void signs() {
        CHECK.promise(6);
        Queueward x = new Queueward();
        CHECK.due("of none", Check.INDEX, () -> x.signAt(0));
        Check.typeText(x, "a~ ");
        CHECK.due("first", 97, () -> x.signAt(0));
        CHECK.due("second", 126, () -> x.signAt(1));
        CHECK.due("last", 32, () -> x.signAt(2));
        CHECK.due("behind the last", Check.INDEX, () -> x.signAt(3));
        CHECK.due("-1", Check.INDEX, () -> x.signAt(-1));
        CHECK.due("least", Check.INDEX, () -> x.signAt(Integer.MIN_VALUE));
        CHECK.due("most", Check.INDEX, () -> x.signAt(Integer.MAX_VALUE));
    }

    private static void fault(int want, String text) {
        Queueward x = new Queueward();
        Check.typeText(x, text);
        CHECK.due("fault of " + text, want, x::fault);
        CHECK.due("the tape stays", text, () -> Check.tapeOf(x));
    }

    private static void faults() {
        CHECK.promise(7);
        fault(-1, "");
        fault(-1, "     ");
        fault(-1, "at0takes1;");
        fault(-1, "  at 0 takes 1 ;  ");
        fault(-1, "at9999takes9999kind9999weighs9999;at0000takes0;");
        fault(-1, "at 1 takes 2 kind 3; at 4 takes 5 weighs 6;at 7 takes 8;");
        fault(3, "at 00000 takes 1;");
        fault(3, "at 12345");
        fault(2, "at12345");
        fault(5, "at 1 12345 takes 1;");
        fault(0, "12345 at 1 takes 1;");
        fault(0, "1 at 1 takes 1;");
        fault(0, ";");
        fault(0, "att 1 takes 1;");
        fault(0, "a t 1 takes 1;");
        fault(0, "At 1 takes 1;");
        fault(0, "attakes 1;");
        fault(3, "at takes 1;");
        fault(2, "at;");
        fault(3, "at -1 takes 1;");
        fault(5, "at 1 kind 1;");
        fault(5, "at 1 taketh 1;");
        fault(5, "at 1 takesx 1;");
        fault(5, "at 1 takeS 1;");
        fault(9, "at1takes ;");
        fault(13, "at 1 takes 1 2;");
        fault(13, "at 1 takes 1 at 2 takes 1;");
        fault(13, "at 1 takes 1 takes 1;");
        fault(13, "at 1 takes 1 kinds 1;");
        fault(20, "at 1 takes 1 kind 1 kind 1;");
        fault(22, "at 1 takes 1 weighs 1 weighs 1;");
        fault(22, "at 1 takes 1 weighs 1 kind 1;");
        fault(18, "at 1 takes 1 kind weighs 1;");
        fault(20, "at 1 takes 1 weighs ;");
        fault(14, "at 1 takes 1; ; at 1 takes 1;");
        fault(13, "at 1 takes 1 , at 1 takes 1;");
        fault(10, "at1takes1;/");
        fault(19, "at1takes1;at1takes1");
        fault(20, "at1takes1;at1takes1 ");
        fault(2, "at");
        fault(4, "at  ");
        fault(4, "at 1");
        fault(10, "at 1 takes");
        fault(12, "at 1 takes 1");
        fault(17, "at 1 takes 1 kind");
        fault(19, "at 1 takes 1 kind 1");
        fault(19, "at 1 takes 1 weighs");
        fault(21, "at 1 takes 1 weighs 1");
        fault(8, "at1takes");
        fault(8, "at1takes12345;");
        fault(0, "atz 1 takes 1;");
        fault(0, "zat 1 takes 1;");
        fault(3, "at1az1;");
        fault(2, "at`1takes1;");
        fault(2, "at{1takes1;");
        fault(3, "at1/takes1;");
        fault(3, "at1:takes1;");
        fault(0, "`");
        fault(0, "{at1takes1;");
    }

    /** Puts a sign that stands nowhere at each place of a right tape: it is the fault, or the word or number is. */
    private static void faultsAtEachSign() {
        String right = "at 12 takes 34 kind 1 weighs 2 ; at1takes1;";
        for (int place = 0; place <= right.length(); place++) {
            String text = right.substring(0, place) + "_" + right.substring(place);
            int want = place;
            for (int start = place; start > 0 && isInWord(right, start); start--) {
                want = start - 1;
            }
            fault(want, text);
        }
    }

    /** Such a tape is too long to be looked at sign by sign: an object has 512 calls. */
    private static void faultOfLong(int want, String text) {
        Queueward x = withTape(text);
        CHECK.due("fault of " + text, want, x::fault);
        CHECK.due("the tape stays", text.length(), () -> x.type(0));
        CHECK.due("the last sign stays", (int) text.charAt(text.length() - 1), () -> x.signAt(text.length() - 1));
    }

    private static void faultsOfFullTapes() {
        String comings = "at0takes1;".repeat(89);
        faultOfLong(-1, comings + "at0takes1;");
        faultOfLong(-1, " ".repeat(900));
        faultOfLong(-1, " ".repeat(890) + "at0takes1;");
        faultOfLong(-1, "at0takes1;" + " ".repeat(890));
        faultOfLong(899, comings + "at0takes1");
        faultOfLong(900, comings + "at0takes12");
        faultOfLong(900, comings + " at0takes1");
        faultOfLong(900, comings + "at0 takes ");
        faultOfLong(890, comings + ";");
        faultOfLong(899, comings + "at0takes1:");
        faultOfLong(898, comings + "at0takes;;");
        faultOfLong(899, " ".repeat(899) + ";");
        faultOfLong(900, " ".repeat(898) + "at");
    }

    /** Whether a word of letters is cut here: what is left of it is another word, which is the fault. */
    private static boolean isInWord(String text, int place) {
        return place < text.length() && isLetter(text.charAt(place)) && isLetter(text.charAt(place - 1));
    }

    private static boolean isLetter(char sign) {
        return sign >= 'a' && sign <= 'z';
    }

    private static Queueward withTape(String text) {
        Queueward x = new Queueward();
        Check.typeText(x, text);
        return x;
    }

    private static void job(Queueward x, int job, int tick, int length, int kind, int weight) {
        CHECK.due("tick of job " + job, tick, () -> x.jobAt(job, 4));
        CHECK.due("length of job " + job, length, () -> x.jobAt(job, 5));
        CHECK.due("kind of job " + job, kind, () -> x.jobAt(job, 6));
        CHECK.due("weight of job " + job, weight, () -> x.jobAt(job, 7));
    }

    private static void readings() {
        CHECK.promise(8);
        String text = "at 0 takes 1; at 1 takes 40 kind 2; at 1 takes 3 weighs 9; at 0500 takes 0004 kind 0001 weighs 05;";
        Queueward x = withTape(text);
        CHECK.due("read", 4, x::read);
        job(x, 0, 0, 1, 0, 1);
        job(x, 1, 1, 40, 2, 1);
        job(x, 2, 1, 3, 0, 9);
        job(x, 3, 500, 4, 1, 5);
        CHECK.due("the tape stays", text, () -> Check.tapeOf(x));
        CHECK.due("again: clocks don't go back", Check.STATE, x::read);
        CHECK.due("one change", 0, x::undo);
        CHECK.due("no jobs then", Check.INDEX, () -> x.jobAt(0, 4));
        CHECK.due("read again", 4, x::read);
        x.wipe();
        CHECK.due("an empty tape", 4, x::read);
        CHECK.due("is a change too", 1, x::undo);
        Check.typeText(x, "at 500 takes 1;at500takes2;");
        CHECK.due("behind those told", 6, x::read);
        CHECK.due("and twice", 8, x::read);
        job(x, 7, 500, 2, 0, 1);
        CHECK.due("come goes on", 8, () -> x.come(500, 1, 0, 1));
    }

    private static void refused(String text, Class<?> want) {
        Queueward x = new Queueward();
        x.come(100, 2, 1, 3);
        Check.typeText(x, text);
        CHECK.due("read of " + text, want, x::read);
        job(x, 0, 100, 2, 1, 3);
        CHECK.due("no more jobs", Check.INDEX, () -> x.jobAt(1, 4));
        CHECK.due("no change more", 0, x::undo);
    }

    private static void readingAllOrNone() {
        refused("at 100 takes 1; at 501 takes 1;", Check.ARGUMENT);
        refused("at 100 takes 1; at 101 takes 41;", Check.ARGUMENT);
        refused("at 100 takes 0;", Check.ARGUMENT);
        refused("at 100 takes 1 kind 3;", Check.ARGUMENT);
        refused("at 100 takes 1 weighs 0;", Check.ARGUMENT);
        refused("at 100 takes 1 weighs 10;", Check.ARGUMENT);
        refused("at 100 takes 1; at", Check.ARGUMENT);
        refused("at 99 takes 1;", Check.STATE);
        refused("at 100 takes 1; at 105 takes 1; at 104 takes 1;", Check.STATE);
        refused("at 99 takes 1; at 100 takes 41;", Check.ARGUMENT);
        refused("at 99 takes 1; at 100 takes 4", Check.ARGUMENT);
        StringBuilder many = new StringBuilder();
        for (int i = 0; i < 24; i++) {
            many.append("at100takes").append(1 + i).append(';');
        }
        refused(many.toString(), Check.STATE);
        refused(many + "at1takes0;", Check.ARGUMENT);
        Queueward x = withTape(many.toString());
        CHECK.due("24 jobs", 24, x::read);
        job(x, 23, 100, 24, 0, 1);
        CHECK.due("not one more", Check.STATE, () -> x.come(100, 1, 0, 1));
        x.wipe();
        CHECK.due("none more", 24, x::read);
        StringBuilder most = new StringBuilder();
        for (int i = 0; i < 90; i++) {
            most.append("at0takes1;");
        }
        Queueward y = withTape(most.toString());
        CHECK.due("90 comings are no fault", -1, y::fault);
        CHECK.due("but too many", Check.STATE, y::read);
        Queueward z = withTape(most.substring(0, 890) + "at0takes0;");
        CHECK.due("a number out of range comes first", Check.ARGUMENT, z::read);
    }
}
