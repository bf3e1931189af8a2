/** Promises 21 to 28: each sentence at its boundaries. */
public final class ToComeEdgesTest {
    private static final int MIN = Integer.MIN_VALUE;
    private static final int MAX = Integer.MAX_VALUE;

    public static void main(String[] args) {
        comesByNumber();
        comesTells();
        issueByNumber();
        issueByField();
        issueAskedInOrder();
        issueAsNow();
        reachAtTheEnds();
        reachStopsAtTheFoe();
        reachByRivers();
        eveningOfEqualOnes();
        eveningNoneCountsAsNought();
        eveningWhereItCanGo();
        eveningOnNobodysDay();
        lastsFromOneToNinetyNine();
        feedsFromNoughtToNinetyNine();
        boldnessByField();
        boldnessTells();
        arrivesInTwentyDays();
        arrivesByTheLeastRow();
        arrivesNotPastTheFoe();
        Check.finish();
    }

    private static CommandByTurns nobodys() {
        CommandByTurns x = Twin.busy();
        Check.bothSick(x, 2);
        return x;
    }

    /** Promise 21: "of the next n (1 .. 30)", "NONE: others". */
    private static void comesByNumber() {
        Check.range("comes(0, n)", 1, 30, n -> new CommandByTurns().comes(0, n));
        Check.range("comes(1, n)", 1, 30, n -> new CommandByTurns().comes(1, n));
        Check.range("comes(c, 5)", 0, 1, c -> new CommandByTurns().comes(c, 5));
        for (int n : new int[] {MIN, -1, 0, 31, MAX}) {
            Twin.refused("comes(0, " + n + ")", x -> x.comes(0, n));
        }
        for (int c : new int[] {MIN, -1, 2, MAX}) {
            Twin.refused("comes(" + c + ", 5)", x -> x.comes(c, 5));
        }
    }

    /** Promise 21: "DAYS (bits from today on) ..; the ROW: how many, how many are nobody's". */
    private static void comesTells() {
        CommandByTurns x = new CommandByTurns();
        Check.due(x, "today alone", x.comes(0, 1), 1, 1, 0);
        Check.due(x, "today is not its", x.comes(1, 1), 0, 0, 0);
        Check.due(x, "two days", x.comes(1, 2), 2, 1, 0);
        Check.due(x, "29 days", x.comes(0, 29), 0x15555555, 15, 0);
        Check.due(x, "29 days", x.comes(1, 29), 0x0AAAAAAA, 14, 0);
        Check.due(x, "30 days", x.comes(0, 30), 0x15555555, 15, 0);
        Check.due(x, "30 days", x.comes(1, 30), 0x2AAAAAAA, 15, 0);
        x.halt();
        Check.due(x, "from today on", x.comes(1, 30), 0x15555555, 15, 0);
        Check.bothSick(x, 30);
        Check.due(x, "all are nobody's", x.comes(0, 30), 0, 0, 30);
        Check.due(x, "all are nobody's", x.comes(1, 1), 0, 0, 1);
        x.sick(1, 29);
        Check.due(x, "all but the last", x.comes(1, 30), 1 << 29, 1, 29);
        Check.due(x, "the last is not asked about", x.comes(1, 29), 0, 0, 29);
        CommandByTurns y = new CommandByTurns();
        Check.halts(y, 75);
        y.lend(98);
        y.lend(99);
        // from day 75 on, odd days are in 0, 2, .. days; days 98 and 99 in 23 and 24
        Check.due(y, "over the last day that can be lent", y.comes(1, 30), 0x15555555 ^ 3 << 23, 15, 0);
    }

    /** Promise 22: "on the DAY in n DAYS (0 .. 30)", "NONE: others". */
    private static void issueByNumber() {
        Check.range("issue(0, n)", 0, 30, n -> new CommandByTurns().issue(0, n));
        for (int n : new int[] {MIN, -1, 31, MAX}) {
            Twin.refused("issue(4, " + n + ")", x -> x.issue(4, n));
            Twin.refused("issue(0, " + n + "), not near", x -> x.issue(0, n));
        }
        CommandByTurns x = new CommandByTurns();
        Check.rule(x, "b*10+d");
        Check.due(x, "today", x.issue(0, 0), 501 + 90, 0);
        Check.due(x, "tomorrow", x.issue(0, 1), 501 + 31, 1);
        Check.due(x, "in 29 days", x.issue(0, 29), 501 + 39, 1);
        Check.due(x, "in 30 days", x.issue(0, 30), 501 + 90, 0);
        x.lend(30);
        Check.due(x, "in 30 days, lent", x.issue(0, 30), 501 + 30, 1);
    }

    /** Promise 22: "-3: not NEAR; NONE: others". */
    private static void issueByField() {
        CommandByTurns x = Check.on("00000");
        x.foe(2);
        Check.rule(x, "7");
        int[] dues = {-3, 508, 508, 508, -3};
        for (int f = 0; f < 5; f++) {
            Check.due("issue(" + f + ", 0)", x.issue(f, 0), dues[f]);
        }
        Check.due("issue(-1, 0)", x.issue(-1, 0), -1);
        Check.due("issue(5, 0)", x.issue(5, 0), -1);
        for (int f : new int[] {MIN, -1, 6, 12, MAX}) {
            Twin.refused("issue(" + f + ", 0)", y -> y.issue(f, 0));
        }
        Twin.refused("not near", Twin::busy, y -> y.issue(3, 0), -3);
    }

    private static void issueAskedInOrder() {
        Twin.refused("nobody's, not near", ToComeEdgesTest::nobodys, x -> x.issue(0, 1), -2);
        Twin.refused("nobody's, near", ToComeEdgesTest::nobodys, x -> x.issue(4, 1), -2);
        Twin.refused("nobody's, no such field", ToComeEdgesTest::nobodys, x -> x.issue(6, 1), -1);
        Twin.refused("nobody's, no such day", ToComeEdgesTest::nobodys, x -> x.issue(4, 31), -1);
        Twin.refused("not near, on the day behind", ToComeEdgesTest::nobodys, x -> x.issue(0, 2), -3);
    }

    /** Promise 22: "if the army were at a FIELD, the foe where he is, .. MEN and FOOD as now". */
    private static void issueAsNow() {
        CommandByTurns x = Check.on("9~050");
        x.foe(1);
        Check.rule(x, "h*20+w*9+f");
        Check.due(x, "above the foe, over the river", x.issue(0, 0), 501 + 180 + 9 + 50, 0);
        Check.due(x, "in his field", x.issue(1, 30), 501 + 50, 0);
        Check.due(x, "on the other side", x.issue(2, 29), 501 + 100 + 50, 1);
        Check.rule(x, "m-e");
        x.send(1, 40);
        Check.due("men as now", x.issue(1, 30), 505);
        CommandByTurns y = new CommandByTurns();
        Check.rule(y, "-500");
        y.fight();
        y.fight();
        Check.due("without men, too", y.issue(0, 0), 1);
    }

    /** Promise 23: "that where it is, too", "NONE: none such". */
    private static void reachAtTheEnds() {
        CommandByTurns x = Check.on("00000");
        Check.due(x, "from the first", x.reach(1), 0b111, 3);
        Check.due(x, "as far as the last", x.reach(0), 0b11111, 5);
        x.foe(0);
        x.march(4);
        Check.due(x, "from the last", x.reach(1), 0b11100, 3);
        Check.due(x, "as far as the first", x.reach(0), 0b11111, 5);
        CommandByTurns y = new CommandByTurns();
        Check.bothSick(y, 3);
        Check.due(y, "a sick one's day", y.reach(1), 3, 2);
        for (int c : new int[] {MIN, -1, 2, MAX}) {
            Twin.refused("reach(" + c + ")", z -> z.reach(c));
        }
    }

    /** Promise 23: "not past the foe". */
    private static void reachStopsAtTheFoe() {
        CommandByTurns x = Check.on("000000000000");
        x.march(4);
        int[][] foes = {{0, 0b000111111111}, {1, 0b000111111110}, {2, 0b000111111100}, {3, 0b000111111000},
            {4, 0b000111111111}, {5, 0b000000111111}, {6, 0b000001111111}, {7, 0b000011111111}, {8, 0b000111111111},
            {11, 0b000111111111}};
        for (int[] f : foes) {
            x.foe(f[0]);
            Check.due(x, "the foe in " + f[0], x.reach(0), f[1], Integer.bitCount(f[1]));
        }
    }

    private static void reachByRivers() {
        CommandByTurns x = Check.on("0~0~0~00");
        x.march(2);
        int[] reaches = {0b00100, 0b01110, 0b11110, 0b11111};
        for (int i = 0; i < 4; i++) {
            x.set(1, 0, 3 * i);
            Check.due(x, "reach " + (i + 1), x.reach(1), reaches[i], Integer.bitCount(reaches[i]));
        }
    }

    /** Promise 24: "of equal ones the nearest, then the lowest". */
    private static void eveningOfEqualOnes() {
        CommandByTurns x = Check.on("00000");
        x.foe(2);
        x.march(2);
        Check.rule(x, "7");
        Check.due(x, "all alike: it stays", x.evening(), 2, 508);
        Check.rule(x, "h");
        x.sheet(2, 5, 0, 0);
        Check.due(x, "all 0: it stays", x.evening(), 2, 501);
        CommandByTurns y = Check.on("0505000");
        y.foe(2);
        y.march(2);
        Check.rule(y, "h");
        Check.due(y, "two as near: the lowest", y.evening(), 1, 506);
        CommandByTurns z = Check.on("0040400");
        z.foe(3);
        Check.rule(z, "h");
        Check.due(z, "one that can be gone to", z.evening(), 2, 505);
        z.march(3);
        z.set(1, 0, 9);
        z.march(3);
        Check.due(z, "two as good: the nearest", z.evening(), 4, 505);
    }

    /** Promise 24: "none, as not NEAR, .. counts as 0"; "the ROW: 501 and ISSUE (501 for none)". */
    private static void eveningNoneCountsAsNought() {
        CommandByTurns x = Check.on("000000");
        x.march(4);
        int[][] dues = {{-1, 3, 501}, {0, 4, 501}, {1, 4, 502}};
        for (int[] d : dues) {
            Check.rule(x, Integer.toString(d[0]));
            Check.due(x, "all battles are " + d[0], x.evening(), d[1], d[2]);
        }
        x.set(1, 0, 0);
        Check.rule(x, "-1");
        Check.due(x, "one step is enough", x.evening(), 3, 501);
        x.foe(4);
        Check.due(x, "no step is enough: it stays", x.evening(), 4, 500);
        CommandByTurns y = new CommandByTurns();
        Check.rule(y, "-500");
        Check.due(y, "the worst", y.evening(), 0, 1);
        Check.rule(y, "500");
        Check.due(y, "the best", y.evening(), 0, 1001);
    }

    /** Promise 24: "one that can be gone to today, or stayed in", "by who commands then". */
    private static void eveningWhereItCanGo() {
        CommandByTurns x = Check.on("000000900");
        x.foe(5);
        Check.rule(x, "h*10");
        Check.due(x, "past the foe it can't go", x.evening(), 0, 501);
        x.foe(7);
        Check.due(x, "too far for today's", x.evening(), 0, 501);
        x.march(2);
        x.halt();
        Check.due(x, "as far as it can", x.evening(), 6, 591);
        x.set(0, 0, 8);
        Check.due(x, "one less than it would need", x.evening(), 2, 501);
        CommandByTurns y = new CommandByTurns();
        Check.rule(y, "b*10+d");
        Check.due(y, "tomorrow's day, tomorrow's consul", y.evening(), 0, 501 + 31);
        y.lend(1);
        Check.due(y, "tomorrow is lent", y.evening(), 0, 501 + 91);
        y.sick(0, 2);
        Check.due(y, "tomorrow's is sick", y.evening(), 0, 501 + 31);
        Check.halts(y, 9);
        Check.due(y, "d begins again", y.evening(), 0, 501 + 90);
    }

    /** Promise 24: "-2: it is nobody's day." */
    private static void eveningOnNobodysDay() {
        Twin.refused("evening()", ToComeEdgesTest::nobodys, x -> x.evening(), -2);
        CommandByTurns x = new CommandByTurns();
        Check.bothSick(x, 1);
        Check.due("nobody's", x.evening(), -2);
        x.halt();
        Check.due("the day behind", x.evening(), 0);
    }

    /** Promise 25: "In how many NIGHTS (1 .. 99) FOOD is first less ..", "-2: in none of these". */
    private static void lastsFromOneToNinetyNine() {
        CommandByTurns x = new CommandByTurns();
        Check.halts(x, 50);
        Check.due("no food", x.lasts(), 1);
        x.send(0, 9);
        Check.due("one less than a night takes", x.lasts(), 1);
        x.send(0, 1);
        Check.due("as much as a night takes", x.lasts(), 2);
        x.send(0, 9);
        Check.due("one less than two nights take", x.lasts(), 2);
        x.send(0, 1);
        Check.due("as much as two nights take", x.lasts(), 3);
        int[][] dues = {{979, 98}, {980, 99}, {981, 99}, {988, 99}, {989, 99}, {990, -2}, {991, -2}, {1400, -2}};
        for (int[] d : dues) {
            CommandByTurns y = new CommandByTurns();
            y.send(0, d[0] - 500);
            Check.due("of " + d[0], y.lasts(), d[1]);
        }
        CommandByTurns z = new CommandByTurns();
        z.send(1, 99);
        Check.due("999 men as now", z.lasts(), 51);
        z.send(1, 1);
        Check.due("1000 men as now", z.lasts(), 46);
        Check.rule(z, "-500");
        z.fight();
        z.fight();
        Check.due("no men take one", z.lasts(), -2);
        Check.due("500 less 6 less 1", z.count(6), 493);
    }

    /** Promise 26: "in n NIGHTS (0 .. 99)", "NONE: another n". */
    private static void feedsFromNoughtToNinetyNine() {
        Check.range("feeds(n)", 0, 99, n -> new CommandByTurns().feeds(n));
        for (int n : new int[] {MIN, -1, 100, MAX}) {
            Twin.refused("feeds(" + n + ")", x -> x.feeds(n));
        }
        CommandByTurns x = new CommandByTurns();
        Check.due(x, "none", x.feeds(0), 900, 500);
        Check.due(x, "one", x.feeds(1), 900, 490);
        Check.due(x, "49", x.feeds(49), 900, 10);
        Check.due(x, "as long as it lasts", x.feeds(50), 900, 0);
        Check.due(x, "one more", x.feeds(51), 810, 0);
        Check.due(x, "two more", x.feeds(52), 729, 0);
        int men = 900;
        for (int i = 51; i <= 98; i++) {
            men -= men / 10;
        }
        Check.due(x, "98", x.feeds(98), men, 0);
        Check.due(x, "99", x.feeds(99), men - men / 10, 0);
        Check.due("the day stays", x.count(1), 0);
        x.send(1, 100);
        // 45 nights of 11, then one that lacks 6
        Check.due(x, "45 nights of 1000 men", x.feeds(45), 1000, 5);
        Check.due(x, "46 nights of 1000 men", x.feeds(46), 900, 0);
        Check.bothSick(x, 9);
        Check.due(x, "on nobody's days, too", x.feeds(46), 900, 0);
    }

    /** Promise 27: "-2000: not NEAR; -1000: none such (asked first)". */
    private static void boldnessByField() {
        CommandByTurns x = Check.on("00000");
        x.foe(2);
        int[] dues = {-2000, 18, 18, 18, -2000};
        for (int f = 0; f < 5; f++) {
            Check.due("boldness(" + f + ")", x.boldness(f), dues[f]);
        }
        Check.due("boldness(-1)", x.boldness(-1), -1000);
        Check.due("boldness(5)", x.boldness(5), -1000);
        for (int f : new int[] {MIN, -1, 6, 12, MAX}) {
            Twin.refused("boldness(" + f + ")", Twin::busy, y -> y.boldness(f), -1000);
        }
        Twin.refused("boldness(3)", Twin::busy, y -> y.boldness(3), -2000);
        x.foe(4);
        Check.due("next to the last, a field that is none", x.boldness(5), -1000);
    }

    /** Promise 27: "how much (below 0, too); the ROW: 501 and each". */
    private static void boldnessTells() {
        CommandByTurns x = new CommandByTurns();
        Check.rule(x, "b");
        Check.due(x, "above 0", x.boldness(0), 6, 510, 504);
        Check.rule(x, "-b");
        Check.due(x, "below 0", x.boldness(0), -6, 492, 498);
        Check.rule(x, "7");
        Check.due(x, "0", x.boldness(0), 0, 508, 508);
        Check.rule(x, "(b-4)*999");
        Check.due(x, "the most", x.boldness(0), 1000, 1001, 1);
        Check.rule(x, "(4-b)*999");
        Check.due(x, "the least", x.boldness(0), -1000, 1, 1001);
        Check.rule(x, "l*10+d");
        x.set(0, 1, 9);
        x.set(1, 1, 0);
        x.halt();
        Check.due(x, "today, whosever it is", x.boldness(1), 90, 501 + 91, 501 + 1);
        Check.bothSick(x, 3);
        Check.due(x, "nobody's day, too", x.boldness(1), 90, 501 + 91, 501 + 1);
    }

    /** Promise 28: "0: it is there", "-2: not in 20; NONE: none such". */
    private static void arrivesInTwentyDays() {
        CommandByTurns x = Check.on("00");
        Check.due(x, "it is there", x.arrives(0), 0);
        Check.due(x, "a day", x.arrives(1), 1, 1);
        Check.bothSick(x, 18);
        Check.due("in 19", x.arrives(1), 19);
        Check.due("18 days where it is", x.row(17), 0);
        Check.due("then there", x.row(18), 1);
        Check.bothSick(x, 19);
        Check.due("in 20", x.arrives(1), 20);
        Check.due("twenty numbers", x.count(11), 20);
        Check.due("the last", x.row(19), 1);
        Twin.refused("in 21", () -> sickInside(20), y -> y.arrives(0), -2);
        Twin.refused("in 22", () -> sickInside(21), y -> y.arrives(0), -2);
        Twin.refused("thirty nobody's days", () -> sickInside(30), y -> y.arrives(5), -2);
        CommandByTurns z = sickInside(30);
        Check.due(z, "it is there on nobody's days, too", z.arrives(4), 0);
        for (int f : new int[] {MIN, -1, 6, 12, MAX}) {
            Twin.refused("arrives(" + f + ")", y -> y.arrives(f));
        }
        CommandByTurns v = Check.on("0~0");
        v.set(0, 0, 0);
        v.set(1, 0, 0);
        Check.due("never", v.arrives(1), -2);
    }

    private static CommandByTurns sickInside(int n) {
        CommandByTurns x = Twin.busy();
        Check.bothSick(x, n);
        return x;
    }

    /** Promise 28: "the FIELDS at the end of each of these DAYS: of as soon ones the least row". */
    private static void arrivesByTheLeastRow() {
        CommandByTurns x = Check.on("000000000000");
        Check.due(x, "a day is enough", x.arrives(4), 1, 4);
        Check.due(x, "two days, the first as short as can be", x.arrives(5), 2, 3, 5);
        Check.due(x, "two days, just enough", x.arrives(6), 2, 4, 6);
        Check.due(x, "three days", x.arrives(7), 3, 1, 3, 7);
        Check.due(x, "three days, just enough", x.arrives(10), 3, 4, 6, 10);
        Check.due(x, "four days", x.arrives(11), 4, 3, 5, 9, 11);
        x.march(4);
        Check.due(x, "downwards", x.arrives(0), 2, 2, 0);
        Check.due(x, "downwards, a day is enough", x.arrives(2), 1, 2);
        Check.due(x, "a way down, then up, is less", x.arrives(7), 2, 3, 7);
    }

    /** Promise 28: "not past the foe, who stays". */
    private static void arrivesNotPastTheFoe() {
        CommandByTurns x = Check.on("000000");
        x.foe(2);
        Check.due(x, "to him", x.arrives(2), 1, 2);
        Check.due(x, "past him by his field", x.arrives(3), 2, 2, 3);
        Check.due(x, "past him by his field", x.arrives(4), 2, 2, 4);
        Check.due(x, "past him in three days", x.arrives(5), 3, 0, 2, 5);
        x.foe(0);
        Check.due(x, "from his field", x.arrives(4), 1, 4);
        x.sick(0, 1);
        Check.due(x, "each day's commander", x.arrives(4), 2, 2, 4);
    }
}
