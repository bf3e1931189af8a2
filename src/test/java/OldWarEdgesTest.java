/** Promises 37 to 41: each sentence at its boundaries. */
public final class OldWarEdgesTest {
    private static final int MIN = Integer.MIN_VALUE;
    private static final int MAX = Integer.MAX_VALUE;

    public static void main(String[] args) {
        seenByNumber();
        seenAgain();
        seenByReach();
        forgotten();
        waysByNumber();
        waysByRuns();
        waysOfDaysAhead();
        waysTellTheLeast();
        noWays();
        sureByNumber();
        sureDays();
        askByNumber();
        askTheFirst();
        Check.finish();
    }

    /** Promise 37: "On a DAY 0 .. 19 .. v FIELDS (0 .. 9 ..)", "Refused: others". */
    private static void seenByNumber() {
        Check.range("seen(n, 1)", 0, 19, n -> new CommandByTurns().seen(n, 1));
        Check.range("seen(1, n)", 0, 9, n -> new CommandByTurns().seen(1, n));
        for (int n : new int[] {MIN, -1, 20, MAX}) {
            Twin.refused("seen(" + n + ", 1)", x -> x.seen(n, 1));
        }
        for (int v : new int[] {MIN, -1, 10, MAX}) {
            Twin.refused("seen(2, " + v + ")", x -> x.seen(2, v));
        }
    }

    /** Promise 37: "how many DAYS were seen (one that is told again: as it is told last)". */
    private static void seenAgain() {
        CommandByTurns x = new CommandByTurns();
        Check.due("day 0", x.seen(0, 9), 1);
        Check.due("day 19", x.seen(19, 0), 2);
        Check.due("bits", x.count(9), 1 | 1 << 19);
        Check.due("nobody marches nine", x.was(1, 1), 0);
        Check.due("day 0 again", x.seen(0, 4), 2);
        Check.due("bits", x.count(9), 1 | 1 << 19);
        Check.due("four", x.was(1, 1), 1);
        Check.due("day 0 once more", x.seen(0, 0), 2);
        Check.due("none", x.was(1, 1), 2);
        Check.due("and more", x.seen(0, 5), 2);
        Check.due("five", x.was(1, 1), 0);
        CommandByTurns y = new CommandByTurns();
        for (int day = 0; day < 20; day++) {
            Check.due("one day more", y.seen(day, 1), day + 1);
        }
        Check.due("all bits", y.count(9), 0xFFFFF);
    }

    /** Promise 37: "it can have been a consul's whose REACH is v or more". */
    private static void seenByReach() {
        int[] ways = {2, 2, 2, 1, 1, 0, 0, 0, 0, 0};
        int[] least = {0, 0, 0, 0, 0, -1, -1, -1, -1, -1};
        for (int v = 0; v <= 9; v++) {
            CommandByTurns x = new CommandByTurns();
            x.seen(0, v);
            Check.due(x, "a march of " + v, x.was(1, 3), ways[v], least[v]);
        }
        CommandByTurns y = new CommandByTurns();
        y.seen(0, 2);
        y.set(0, 0, 2);
        Check.due(y, "consul 1 alone has reach 2", y.was(1, 3), 1, 1);
        y.set(0, 0, 3);
        Check.due(y, "both have", y.was(1, 3), 2, 0);
        y.set(1, 0, 2);
        Check.due(y, "consul 0 alone", y.was(1, 3), 1, 0);
    }

    /** Promise 38: "They are forgotten: how many there were." */
    private static void forgotten() {
        CommandByTurns x = new CommandByTurns();
        Check.due("none", x.forget(), 0);
        x.seen(0, 9);
        Check.due("one", x.forget(), 1);
        Check.due("none any more", x.forget(), 0);
        Check.due("bits", x.count(9), 0);
        Check.due("ways as if none were seen", x.was(3, 3), 8);
        for (int day = 0; day < 20; day++) {
            x.seen(day, 9);
        }
        Check.due("twenty", x.forget(), 20);
        Check.due("ways of twenty days", x.was(20, 1), 2);
        Check.due("seen anew", x.seen(4, 1), 1);
    }

    /** Promise 39: "n 1 .. 20", "k (1 .. 3)", "NONE: others". */
    private static void waysByNumber() {
        Check.range("was(n, 2)", 1, 20, n -> new CommandByTurns().was(n, 2));
        Check.range("was(5, k)", 1, 3, k -> new CommandByTurns().was(5, k));
        for (int n : new int[] {MIN, -1, 0, 21, MAX}) {
            Twin.refused("was(" + n + ", 1)", x -> x.was(n, 1));
        }
        for (int k : new int[] {MIN, -1, 0, 4, MAX}) {
            Twin.refused("was(5, " + k + ")", x -> x.was(5, k));
        }
    }

    /** Promise 39: "no one commanding more than k (1 .. 3) DAYS one behind the other". */
    private static void waysByRuns() {
        int[][] ways = {{1, 2, 2, 2}, {2, 2, 4, 4}, {3, 2, 6, 8}, {4, 2, 10, 14}, {5, 2, 16, 26}, {6, 2, 26, 48},
            {19, 2, 13530, 132024}, {20, 2, 21892, 242830}};
        for (int[] w : ways) {
            for (int k = 1; k <= 3; k++) {
                Check.due("was(" + w[0] + ", " + k + ")", new CommandByTurns().was(w[0], k), w[k]);
            }
        }
        CommandByTurns x = new CommandByTurns();
        x.seen(0, 4);
        Check.due(x, "a day of consul 0's", x.was(1, 1), 1, 0);
        x.seen(1, 4);
        Check.due(x, "two by one", x.was(2, 1), 0, -1);
        Check.due(x, "two by two", x.was(2, 2), 1, 0);
        x.seen(2, 4);
        Check.due(x, "three by two", x.was(3, 2), 0, -1);
        Check.due(x, "three by three", x.was(3, 3), 1, 0);
        x.seen(3, 4);
        Check.due(x, "four by three", x.was(4, 3), 0, -1);
    }

    /** Promise 39: "DAYS 0 .. n - 1". */
    private static void waysOfDaysAhead() {
        for (int n : new int[] {1, 2, 5, 19}) {
            CommandByTurns x = new CommandByTurns();
            int all = x.was(n, 2);
            x.seen(n, 9);
            Check.due("what was seen on day " + n + " is behind " + n, x.was(n, 2), all);
            x.forget();
            x.seen(n - 1, 9);
            Check.due("what was seen on day " + (n - 1) + " is not", x.was(n, 2), 0);
        }
    }

    /** Promise 39: "the ROW: the least (bits: consul 1's; NONE)". */
    private static void waysTellTheLeast() {
        int[][] least = {{1, 1, 0}, {1, 3, 0}, {2, 1, 1}, {2, 2, 0}, {3, 1, 2}, {3, 2, 1}, {3, 3, 0}, {4, 1, 5}, {4, 2, 2},
            {4, 3, 1}, {5, 3, 2}, {20, 1, 0x55555}};
        for (int[] l : least) {
            CommandByTurns x = new CommandByTurns();
            x.was(l[0], l[1]);
            Check.rowIs(x, "was(" + l[0] + ", " + l[1] + ")", l[2]);
        }
        CommandByTurns y = new CommandByTurns();
        y.seen(3, 4);
        y.seen(2, 4);
        Check.due(y, "the last ones are consul 0's", y.was(4, 2), 2, 1 << 1);
        y.set(0, 0, 0);
        y.set(1, 0, 9);
        Check.due(y, "the last ones are consul 1's", y.was(4, 2), 2, 12);
    }

    private static void noWays() {
        CommandByTurns x = new CommandByTurns();
        x.seen(4, 5);
        for (int k = 1; k <= 3; k++) {
            Check.due(x, "was(5, k)", x.was(5, k), 0, -1);
            Check.due(x, "sure(5, k)", x.sure(5, k), 0, 0);
            Check.due(x, "ask(5, k)", x.ask(5, k), -2, 0);
        }
        Check.due("without that day", x.was(4, 1), 2);
    }

    /** Promise 40: "NONE: likewise". */
    private static void sureByNumber() {
        Check.range("sure(n, 2)", 1, 20, n -> new CommandByTurns().sure(n, 2));
        Check.range("sure(5, k)", 1, 3, k -> new CommandByTurns().sure(5, k));
        for (int n : new int[] {MIN, -1, 0, 21, MAX}) {
            Twin.refused("sure(" + n + ", 1)", x -> x.sure(n, 1));
        }
        for (int k : new int[] {MIN, -1, 0, 4, MAX}) {
            Twin.refused("sure(5, " + k + ")", x -> x.sure(5, k));
        }
    }

    /** Promise 40: "the same one's in all such ways; the ROW: those of them that were consul 1's". */
    private static void sureDays() {
        CommandByTurns x = new CommandByTurns();
        Check.due(x, "nothing", x.sure(1, 1), 0, 0);
        Check.due(x, "nothing of twenty", x.sure(20, 1), 0, 0);
        x.seen(19, 3);
        Check.due(x, "the last of twenty", x.sure(20, 3), 1 << 19, 0);
        Check.due(x, "all by turns", x.sure(20, 1), 0xFFFFF, 0x55555);
        Check.due(x, "it is not among nineteen", x.sure(19, 1), 0, 0);
        x.seen(18, 3);
        Check.due(x, "the one ahead of two", x.sure(20, 2), 7 << 17, 1 << 17);
        Check.due(x, "not by three", x.sure(20, 3), 3 << 18, 0);
        x.set(0, 0, 0);
        x.set(1, 0, 6);
        Check.due(x, "the other one's", x.sure(20, 2), 7 << 17, 3 << 18);
        CommandByTurns y = new CommandByTurns();
        y.seen(0, 3);
        y.seen(3, 3);
        Check.due(y, "between two", y.sure(4, 2), 9, 0);
        y.seen(1, 3);
        Check.due(y, "one way", y.sure(4, 2), 15, 4);
    }

    /** Promise 41: "-2: there are no ways; NONE: likewise". */
    private static void askByNumber() {
        Check.range("ask(n, 2)", 1, 20, n -> new CommandByTurns().ask(n, 2));
        Check.range("ask(5, k)", 1, 3, k -> new CommandByTurns().ask(5, k));
        for (int n : new int[] {MIN, -1, 0, 21, MAX}) {
            Twin.refused("ask(" + n + ", 1)", x -> x.ask(n, 1));
        }
        for (int k : new int[] {MIN, -1, 0, 4, MAX}) {
            Twin.refused("ask(5, " + k + ")", x -> x.ask(5, k));
        }
        Twin.refused("no ways", OldWarEdgesTest::nineOnDayFour, x -> x.ask(5, 3), -2);
        Check.due("ways without day 4", nineOnDayFour().ask(4, 3) >= 0, true);
    }

    private static CommandByTurns nineOnDayFour() {
        CommandByTurns x = Twin.busy();
        x.seen(4, 9);
        return x;
    }

    /** Promise 41: "the fewest ways are left at most; of equal ones the first". */
    private static void askTheFirst() {
        CommandByTurns x = new CommandByTurns();
        Check.due(x, "one day", x.ask(1, 1), 0, 1);
        Check.due(x, "all days are alike", x.ask(20, 3), 0, 121415);
        x.seen(0, 3);
        Check.due(x, "a sure day leaves all", x.ask(1, 1), 0, 1);
        Check.due(x, "the first that is not sure", x.ask(2, 2), 1, 1);
        Check.due(x, "by turns one way is left", x.ask(20, 1), 0, 1);
        // ways of four days with day 0 consul 0's: 5, of which day 1 parts 3 and 2, day 2 too, day 3 too
        Check.due(x, "of equal ones the first", x.ask(4, 2), 1, 3);
        x.seen(1, 3);
        Check.due(x, "the last alone", x.ask(4, 2), 3, 1);
    }
}
