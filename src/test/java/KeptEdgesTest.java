/** Promises 46 to 49: each sentence at its boundaries. */
public final class KeptEdgesTest {
    private static final int MIN = Integer.MIN_VALUE;
    private static final int MAX = Integer.MAX_VALUE;

    public static void main(String[] args) {
        keepByNumber();
        againByNumber();
        twoNumbersApart();
        whatIsKept();
        whatIsNotKept();
        keptTillTheGround();
        counts();
        countsOfOthers();
        rowsByNumber();
        rowsOfLength();
        Check.finish();
    }

    /** Promise 46: "kept under a number 0 .. 1: true. Refused: others." */
    private static void keepByNumber() {
        CommandByTurns x = new CommandByTurns();
        Check.due("keep(0)", x.keep(0), true);
        Check.due("keep(1)", x.keep(1), true);
        for (int i : new int[] {MIN, -1, 2, 3, MAX}) {
            Twin.refused("keep(" + i + ")", y -> y.keep(i) ? 1 : -1);
            Check.due("again(" + i + ")", x.again(i), false);
        }
    }

    /** Promise 47: "Refused: nothing kept". */
    private static void againByNumber() {
        for (int i : new int[] {MIN, -1, 2, 3, MAX}) {
            Twin.refused("again(" + i + ")", x -> x.again(i) ? 1 : -1);
        }
        for (int i = 0; i < 2; i++) {
            int other = 1 - i;
            Twin.refused("again(" + other + ")", () -> keptOnly(1 - other), x -> x.again(other) ? 1 : -1, -1);
            Check.due("again(" + i + ")", keptOnly(i).again(i), true);
        }
        Twin.refused("again(0) of nothing", () -> Check.on("0~00"), x -> x.again(0) ? 1 : -1, -1);
        Twin.refused("again(1) of nothing", () -> Check.on("0~00"), x -> x.again(1) ? 1 : -1, -1);
    }

    private static CommandByTurns keptOnly(int i) {
        CommandByTurns x = Check.on("0~000");
        x.halt();
        x.keep(i);
        x.march(1);
        return x;
    }

    private static void twoNumbersApart() {
        CommandByTurns x = new CommandByTurns();
        x.keep(0);
        x.halt();
        x.keep(1);
        x.halt();
        Check.due("again(0)", x.again(0), true);
        Check.due("day 0", x.count(1), 0);
        Check.due("again(1)", x.again(1), true);
        Check.due("day 1", x.count(1), 1);
        x.halt();
        x.keep(0);
        x.halt();
        Check.due("kept anew", x.again(0), true);
        Check.due("day 2", x.count(1), 2);
        x.halt();
        Check.due("as often as one likes", x.again(0), true);
        Check.due("day 2", x.count(1), 2);
        Check.due("the other one is as it was", x.again(1), true);
        Check.due("day 1", x.count(1), 1);
    }

    /** Promise 46: "DAY, FIELDS, MEN, FOOD, LENT DAYS, sickness are kept". */
    private static void whatIsKept() {
        CommandByTurns x = Check.on("00000");
        x.march(2);
        x.foe(3);
        x.send(1, 11);
        x.send(2, 22);
        x.send(0, 33);
        x.lend(1);
        x.lend(99);
        x.sick(0, 3);
        x.sick(1, 30);
        x.keep(1);
        x.lend(1);
        x.lend(99);
        x.lend(50);
        x.sick(0, 9);
        x.sick(1, 1);
        x.foe(4);
        x.send(1, 5);
        x.send(2, 5);
        Check.war(x, "hhh<1");
        Check.due("again", x.again(1), true);
        int[] counts = {5, 1, 2, 3, 911, 922, 523, 2, 1, 0, 0};
        for (int what = 0; what < counts.length; what++) {
            Check.due("count(" + what + ") as kept", x.count(what), counts[what]);
        }
        Check.due("consul 0's sickness", x.consul(0, 3), 3);
        Check.due("consul 1's sickness", x.consul(1, 3), 30);
        Check.due("nothing can be undone", x.undo(), -1);
        x.halt();
        Check.due("but what comes then", x.undo(), 0);
    }

    private static void whatIsNotKept() {
        CommandByTurns x = Check.on("00000");
        x.keep(0);
        x.set(0, 0, 1);
        x.set(1, 1, 2);
        x.sheet(2, 5, 4, 1);
        x.seen(7, 3);
        Check.rule(x, "77");
        Check.wishes(x, 0, "8");
        x.sign(0x31323334);
        x.march(1);
        Check.due("again", x.again(0), true);
        Check.due("bold", x.consul(0, 0), 1);
        Check.due("liked", x.consul(1, 1), 2);
        Check.due("height", x.field(0, 0), 4);
        Check.due("seen", x.count(9), 1 << 7);
        Check.due("the rule", x.issue(4, 0), 501 + 77);
        Check.due("the wish", x.consul(0, 4), 8);
        Check.due("the text", x.count(12), 4);
    }

    /** Promise 47: "Refused: .. THE GROUND was told since." */
    private static void keptTillTheGround() {
        CommandByTurns x = Check.on("00000");
        x.keep(0);
        x.keep(1);
        Check.due("a ground that can't be read", Check.ground(x, "0"), -2);
        Check.due("again(0)", x.again(0), true);
        Check.due("again(1)", x.again(1), true);
        Check.due("the same ground", Check.ground(x, "00000"), 5);
        Check.due("again(0)", x.again(0), false);
        Check.due("again(1)", x.again(1), false);
        x.keep(1);
        Check.due("kept since", x.again(1), true);
        Check.due("not kept since", x.again(0), false);
    }

    /** Promise 48: each what. */
    private static void counts() {
        CommandByTurns x = Check.on("0~5312~4");
        x.march(3);
        x.foe(4);
        x.send(1, 1);
        x.send(2, 2);
        x.send(0, 3);
        x.lend(1);
        x.lend(50);
        x.seen(0, 1);
        x.seen(19, 1);
        x.sign(0);
        x.end(3);
        int[] dues = {6, 1, 3, 4, 901, 902, 493, 2, 1, 1 | 1 << 19, 7, 2, 3};
        for (int what = 0; what < dues.length; what++) {
            Check.due("count(" + what + ")", x.count(what), dues[what]);
        }
        x.halt();
        Check.due("lent days from now on", x.count(7), 1);
        Check.due("the row", x.count(11), 1);
        x.foe(5);
        Check.due("not near", x.count(8), 0);
        Check.due("nine", x.count(10), 9);
    }

    /** Promise 48: "NONE for another what." */
    private static void countsOfOthers() {
        Check.range("count(n) on day 1", 0, 12, n -> Twin.busy().count(n));
        for (int what : new int[] {MIN, -1, 13, 14, MAX}) {
            Twin.refused("count(" + what + ")", x -> x.count(what));
        }
    }

    /** Promise 49: "NoSuchElementException: none such." */
    private static void rowsByNumber() {
        CommandByTurns x = new CommandByTurns();
        Check.noSuch("row(0) of none", () -> x.row(0));
        Check.noSuch("row(-1) of none", () -> x.row(-1));
        x.halt();
        Check.due("row(0) of one", x.row(0), 0);
        Check.noSuch("row(1) of one", () -> x.row(1));
        x.march(1);
        Check.due("row(0) of two", x.row(0), 1);
        Check.due("row(1) of two", x.row(1), 480);
        Check.noSuch("row(2) of two", () -> x.row(2));
        for (int i : new int[] {MIN, -1, 2, 3, 20, 32, MAX}) {
            Twin.throwsNoSuch("row(" + i + ")", y -> y.row(i));
        }
        x.halt();
        Check.noSuch("row(1) of a shorter one", () -> x.row(1));
        x.arrives(x.count(2));
        Check.due("a row of none", x.count(11), 0);
        Check.noSuch("row(0) of none again", () -> x.row(0));
    }

    private static void rowsOfLength() {
        CommandByTurns x = Check.on("000000000000");
        x.halt();
        x.sick(0, 20);
        Check.due("twenty days", x.avoids(20), 20);
        Check.due("twenty numbers", x.count(11), 20);
        Check.due("the first", x.row(0), 0);
        Check.due("the last", x.row(19), 0);
        Check.noSuch("row(20)", () -> x.row(20));
        x.rain(12, 1);
        Check.due("two numbers", x.count(11), 2);
        Check.noSuch("row(2)", () -> x.row(2));
    }
}
