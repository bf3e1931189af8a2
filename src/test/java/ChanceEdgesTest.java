/** Promises 42 to 45: each sentence at its boundaries. */
public final class ChanceEdgesTest {
    private static final int MIN = Integer.MIN_VALUE;
    private static final int MAX = Integer.MAX_VALUE;

    public static void main(String[] args) {
        rainByNumber();
        rainAlwaysOrNever();
        rainInLowestTerms();
        votesByNumber();
        votesOfAThird();
        votesAreCut();
        rests();
        yearsByNumber();
        drawsWithoutSign();
        aDrawOfNought();
        aDrawOfOne();
        aDrawOfTwo();
        aDrawOfThree();
        yearsOnNobodysDays();
        nightsOfYears();
        Check.finish();
    }

    /** Promise 42: "by p tenths (0 .. 10) .. the DAY in n DAYS (0 .. 12)", "NONE: others". */
    private static void rainByNumber() {
        Check.range("rain(n, 3)", 0, 12, n -> new CommandByTurns().rain(n, 3));
        Check.range("rain(3, p)", 0, 10, p -> new CommandByTurns().rain(3, p));
        for (int n : new int[] {MIN, -1, 13, MAX}) {
            Twin.refused("rain(" + n + ", 3)", x -> x.rain(n, 3));
        }
        for (int p : new int[] {MIN, -1, 11, MAX}) {
            Twin.refused("rain(3, " + p + ")", x -> x.rain(3, p));
        }
    }

    private static void rainAlwaysOrNever() {
        CommandByTurns x = new CommandByTurns();
        for (int n = 0; n <= 12; n++) {
            Check.due(x, "always rain, in " + n, x.rain(n, 10), 0, 1, 1);
            Check.due(x, "never rain, in " + n, x.rain(n, 0), 0, n % 2 == 0 ? 1 : 0, 1);
            Check.due(x, "today", x.rain(0, n % 11), 0, 1, 1);
        }
        x.halt();
        x.sick(0, 5);
        Check.due(x, "today is taken as consul 0's", x.rain(0, 3), 0, 1, 1);
        Check.due(x, "today is taken as consul 0's", x.rain(1, 0), 0, 0, 1);
    }

    /** Promise 42: "the ROW: the fraction". */
    private static void rainInLowestTerms() {
        CommandByTurns x = new CommandByTurns();
        int[][] dues = {{1, 1, 1, 10}, {1, 2, 1, 5}, {1, 9, 9, 10}, {2, 1, 41, 50}, {2, 2, 17, 25}, {2, 9, 41, 50},
            {3, 1, 61, 250}, {1, 5, 1, 2}, {11, 5, 1, 2}, {12, 5, 1, 2}};
        for (int[] d : dues) {
            Check.due(x, "rain(" + d[0] + ", " + d[1] + ")", x.rain(d[0], d[1]), 0, d[2], d[3]);
        }
        // half of 1 and 4 / 5 to the twelfth; half of 1 less 4 / 5 to the eleventh
        Check.due(x, "rain(12, 9)", x.rain(12, 9), 0, 260917841, 488281250);
        Check.due(x, "rain(12, 1)", x.rain(12, 1), 0, 260917841, 488281250);
        Check.due(x, "rain(11, 1)", x.rain(11, 1), 0, 48828125 - 4194304, 97656250);
    }

    /** Promise 43: "n tribunes (1 .. 15) .. by p tenths (0 .. 10)", "NONE: others". */
    private static void votesByNumber() {
        Check.range("stops(n, 3)", 1, 15, n -> new CommandByTurns().stops(n, 3));
        Check.range("stops(3, p)", 0, 10, p -> new CommandByTurns().stops(3, p));
        for (int n : new int[] {MIN, -1, 0, 16, MAX}) {
            Twin.refused("stops(" + n + ", 3)", x -> x.stops(n, 3));
        }
        for (int p : new int[] {MIN, -1, 11, MAX}) {
            Twin.refused("stops(3, " + p + ")", x -> x.stops(3, p));
        }
        for (int n = 1; n <= 15; n++) {
            Check.due("nobody votes for it", new CommandByTurns().stops(n, 0), 0);
            Check.due("all vote for it", new CommandByTurns().stops(n, 10), 1000000);
        }
    }

    /** Promise 43: "a third or more of them": one of 1 .. 3, two of 4 .. 6, three of 7 .. 9, four of 10 .. 12. */
    private static void votesOfAThird() {
        int[] dues = {0, 500000, 750000, 875000, 687500, 812500, 890625};
        for (int n = 1; n <= 6; n++) {
            Check.due("stops(" + n + ", 5)", new CommandByTurns().stops(n, 5), dues[n]);
        }
        // of 2 to the n sets those with at least k, by hand
        Check.due("three of seven", new CommandByTurns().stops(7, 5), (128 - 1 - 7 - 21) * 1000000L / 128);
        Check.due("three of nine", new CommandByTurns().stops(9, 5), (512 - 1 - 9 - 36) * 1000000L / 512);
        Check.due("four of ten", new CommandByTurns().stops(10, 5), (1024 - 1 - 10 - 45 - 120) * 1000000L / 1024);
        Check.due("five of fifteen", new CommandByTurns().stops(15, 5),
                (32768 - 1 - 15 - 105 - 455 - 1365) * 1000000L / 32768);
    }

    /** Promise 43: "by 1000000 (cut)". */
    private static void votesAreCut() {
        CommandByTurns x = new CommandByTurns();
        Check.due("one of three by 1 tenth", x.stops(3, 1), 271000);
        Check.due("two of six by 1 tenth, just six digits", x.stops(6, 1), 114265);
        // 1 - 0.9^7 - 7 0.1 0.9^6 - 21 0.01 0.9^5 = 0.0256915
        Check.due("three of seven by 1 tenth, seven digits", x.stops(7, 1), 25691);
        // 1 - 0.1^7 - 7 0.9 0.1^6 - 21 0.81 0.1^5 = 0.9998235
        Check.due("three of seven by 9 tenths", x.stops(7, 9), 999823);
        Check.due("five of fifteen by 9 tenths", x.stops(15, 9), 999999);
    }

    /** Promise 44. */
    private static void rests() {
        CommandByTurns x = Twin.busy();
        Check.due(x, "rests()", x.rests(), 51, 0, 9);
        Check.due("whatever was done", new CommandByTurns().rests(), 51);
    }

    /** Promise 45: "n DAYS (1 .. 60)", "NONE: another n". */
    private static void yearsByNumber() {
        Check.range("years(1, n)", 1, 60, n -> new CommandByTurns().years(1, n));
        for (int n : new int[] {MIN, -1, 0, 61, MAX}) {
            Twin.refused("years(1, " + n + ")", x -> x.years(1, n));
        }
        CommandByTurns x = new CommandByTurns();
        Check.rule(x, "0");
        // on a ground of two fields each draw of 2 is a battle
        Check.due(x, "one day", x.years(7, 1), 0, 900, 900, 490);
        Check.due(x, "two days", x.years(7, 2), 1, 900, 900, 480);
        Check.due("59 days", x.years(7, 59), 22);
        Check.due(x, "60 days", x.years(7, 60), 23, menOfSixtyNights(), 900, 0);
        Check.due("60 days of another seed", x.years(13, 60), 20);
    }

    /** Fifty nights are fed, ten are not. */
    private static int menOfSixtyNights() {
        int men = 900;
        for (int i = 0; i < 10; i++) {
            men -= men / 10;
        }
        return men;
    }

    /** Promise 45: "as ints; .. R without sign". */
    private static void drawsWithoutSign() {
        CommandByTurns x = new CommandByTurns();
        Check.rule(x, "0");
        // each is 2 at first; R is below 0 with seeds 6, 15, 22 and that next to MIN
        int[] seeds = {1, 8, 13, 6, 15, 22, MIN + 1};
        for (int seed : seeds) {
            Check.due("seed " + seed, x.years(seed, 1), 1);
        }
        int[] others = {0, 2, 3, 4, 5, 7, -1, -2, MAX, MIN};
        for (int seed : others) {
            Check.due("seed " + seed, x.years(seed, 1), 0);
        }
        // draws 1 1 2 2 1 2 of -1 and of MAX
        Check.due("seed -1", x.years(-1, 6), 3);
        Check.due("seed MAX", x.years(MAX, 6), 3);
        // draws 3 2 0 0 0 2 2 2 of -2, 0 0 0 1 2 of MIN
        Check.due("seed -2", x.years(-2, 8), 4);
        Check.due("seed MIN", x.years(MIN, 4), 0);
        Check.due("seed MIN", x.years(MIN, 5), 1);
    }

    /** Promise 45: "0: it marches a FIELD towards the foe (if it is not in his FIELD)"; seed 7 draws 0 2. */
    private static void aDrawOfNought() {
        CommandByTurns x = Check.on("0~90");
        x.set(0, 0, 0);
        Check.rule(x, "h*10");
        Check.due(x, "upwards, over a river with reach 1", x.years(7, 2), 1, 870, 810, 481);
        CommandByTurns y = Check.on("059");
        y.foe(0);
        y.march(2);
        Check.rule(y, "h*10");
        Check.due(y, "downwards", y.years(7, 2), 1, 884, 850, 471);
        CommandByTurns z = Check.on("950");
        z.foe(0);
        Check.rule(z, "h*10+7");
        Check.due(z, "in his field it stays", z.years(7, 2), 1, 898, 893, 481);
        z.foe(1);
        Check.due(z, "into his field", z.years(7, 2), 1, 898, 893, 481);
    }

    /** Promise 45: "1: a FIELD back from him (if there is one; from his own FIELD: to the one below)"; seed 4 draws 1 2. */
    private static void aDrawOfOne() {
        CommandByTurns x = Check.on("9500");
        Check.rule(x, "h*10+7");
        x.foe(1);
        Check.due(x, "from field 0 there is none", x.years(4, 2), 1, 885, 853, 481);
        x.foe(0);
        Check.due(x, "from his own field 0 there is none", x.years(4, 2), 1, 898, 893, 481);
        x.march(1);
        x.foe(1);
        Check.due(x, "from his own field to the one below", x.years(4, 2), 1, 885, 853, 471);
        x.foe(2);
        Check.due(x, "downwards, and not near", x.years(4, 2), 0, 900, 900, 470);
        x.foe(0);
        Check.due(x, "upwards, and not near", x.years(4, 2), 0, 900, 900, 470);
        x.foe(1);
        x.march(2);
        x.foe(2);
        Check.due(x, "from the last field there is none upwards", x.years(4, 2), 1, 898, 893, 461);
        x.foe(3);
        Check.due(x, "from his own field, the last", x.years(4, 2), 1, 898, 893, 461);
    }

    /** Promise 45: "2: it fights (if that can be) .. (and if it can't)"; seed 1 draws 2 2. */
    private static void aDrawOfTwo() {
        CommandByTurns x = Check.on("000");
        Check.rule(x, "b");
        Check.due(x, "not near", x.years(1, 2), 0, 900, 900, 480);
        x.foe(1);
        Check.due(x, "neighbours, by each in turn", x.years(1, 2), 2, 896, 888, 482);
        x.foe(0);
        Check.due(x, "in his field", x.years(1, 2), 2, 896, 888, 482);
        Check.rule(x, "-500");
        Check.due(x, "one battle leaves men", x.years(1, 1), 1, 400, 734, 495);
        Check.due(x, "the second leaves none", x.years(1, 2), 2, 0, 568, 494);
        x.fight();
        x.fight();
        Check.due(x, "without men none", x.years(1, 2), 0, 0, 568, 492);
        x.send(1, 1);
        Check.due(x, "with one man one", x.years(1, 2), 1, 0, 402, 492);
        CommandByTurns y = new CommandByTurns();
        Check.rule(y, "500");
        y.fight();
        y.fight();
        Check.due(y, "without the foe's men none", y.years(1, 2), 0, 568, 0, 474);
        y.send(2, 1);
        Check.due(y, "with one man of his one", y.years(1, 2), 1, 402, 0, 476);
    }

    /** Promise 45: "else it stays"; seed 10 draws 3 2. */
    private static void aDrawOfThree() {
        CommandByTurns x = Check.on("090");
        x.foe(0);
        x.march(1);
        Check.rule(x, "h*10");
        Check.due(x, "it stays, then fights", x.years(10, 2), 1, 870, 810, 471);
    }

    /** Promise 45: "nobody's: it stays". */
    private static void yearsOnNobodysDays() {
        CommandByTurns x = new CommandByTurns();
        Check.rule(x, "b");
        Check.bothSick(x, 1);
        Check.due(x, "the first day is nobody's", x.years(1, 2), 1, 899, 897, 481);
        Check.bothSick(x, 2);
        Check.due(x, "both days are", x.years(1, 2), 0, 900, 900, 480);
        x.sick(1, 1);
        Check.due(x, "the second is consul 1's", x.years(1, 2), 1, 899, 897, 481);
        x.sick(0, 1);
        x.sick(1, 2);
        Check.due(x, "the second is consul 0's for the sick one", x.years(1, 2), 1, 897, 891, 481);
        CommandByTurns y = Check.on("0000");
        y.foe(2);
        Check.rule(y, "7");
        Check.bothSick(y, 1);
        Check.due(y, "no march on nobody's day", y.years(7, 2), 0, 900, 900, 480);
        CommandByTurns z = new CommandByTurns();
        Check.rule(z, "0");
        Check.bothSick(z, 30);
        Check.due("thirty of sixty", z.years(7, 60), 11);
        z.lend(1);
        Check.due("lent days or not", z.years(7, 60), 11);
    }

    /** Promise 45: "a NIGHT each". */
    private static void nightsOfYears() {
        CommandByTurns x = new CommandByTurns();
        Check.halts(x, 49);
        Check.due(x, "just enough", x.years(0, 1), 0, 900, 900, 0);
        Check.due(x, "not so much", x.years(0, 2), 0, 810, 900, 0);
        Check.due("the day stays", x.count(1), 49);
        Check.rule(x, "d");
        // days 49 and 50: 9, then 0; 897 men take 9 each night
        x.send(0, 7);
        Check.due(x, "one less than two nights take", x.years(1, 2), 2, 808, 891, 0);
        x.send(0, 1);
        Check.due(x, "as much as two nights take", x.years(1, 2), 2, 897, 891, 0);
    }
}
