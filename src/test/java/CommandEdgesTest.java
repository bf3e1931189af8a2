/** Promises 35 and 36: each sentence at its boundaries. */
public final class CommandEdgesTest {
    private static final int MIN = Integer.MIN_VALUE;
    private static final int MAX = Integer.MAX_VALUE;

    public static void main(String[] args) {
        commandByNumber();
        commandIfNear();
        commandOfEqualOnes();
        commandOfTwoToFourDays();
        commandAgainAndAgain();
        commandWhileNobodyIsSick();
        commandAsNow();
        halvesByHundreds();
        halvesOfEqualOnes();
        halvesOfTheFoe();
        halvesWithinTheBounds();
        halvesNearOrNot();
        Check.finish();
    }

    /** Promise 35: "n DAYS (1 .. 30)", "NONE: another n". */
    private static void commandByNumber() {
        Check.range("command(n)", 1, 30, n -> new CommandByTurns().command(n));
        for (int n : new int[] {MIN, -1, 0, 31, MAX}) {
            Twin.refused("command(" + n + ")", x -> x.command(n));
            Twin.refused("command(" + n + "), not near", () -> Check.on("000"), x -> x.command(n), -1);
        }
    }

    /** Promise 35: "-2: not NEAR now". */
    private static void commandIfNear() {
        CommandByTurns x = Check.on("00000");
        x.march(2);
        int[] dues = {-2, 2, 2, 2, -2};
        for (int f = 0; f < 5; f++) {
            x.foe(f);
            Check.due("the foe in " + f, x.command(3), dues[f]);
        }
        Twin.refused("not near", () -> Check.on("000"), y -> y.command(1), -2);
        Twin.refused("not near", () -> Check.on("000"), y -> y.command(30), -2);
    }

    /** Promise 35: "of as good ones the fewest DAYS, then the least bits". */
    private static void commandOfEqualOnes() {
        CommandByTurns x = new CommandByTurns();
        Check.rule(x, "7");
        Check.due(x, "all as good", x.command(1), 2, 0, 7);
        Check.due(x, "all as good", x.command(30), 2, 0, 210);
        Check.rule(x, "-b");
        Check.due(x, "one day: the second is free", x.command(1), 2, 1, -3);
        Check.due(x, "two days", x.command(2), 2, 3, -6);
        Check.rule(x, "b");
        Check.due(x, "always consul 0", x.command(30), 2, 0, 270);
        Check.rule(x, "-500");
        Check.due(x, "all are the worst", x.command(30), 2, 0, -15000);
    }

    /** Promise 35: "Rules: 2, 3 or 4 DAYS .. (told as bits: 1 for consul 1; the first DAY is today's)". */
    private static void commandOfTwoToFourDays() {
        int[][] dues = {{0, 2, 1, 6}, {1, 2, 2, 6}, {2, 3, 4, 15}, {3, 4, 8, 24}};
        for (int[] d : dues) {
            CommandByTurns x = new CommandByTurns();
            // consul 0 is better on all days but one
            Check.rule(x, "b*(1-2*(d=" + d[0] + "))");
            int n = Math.max(2, d[0] + 1);
            Check.due(x, "day " + d[0] + " of " + n, x.command(n), d[1], d[2], d[3]);
        }
        CommandByTurns x = new CommandByTurns();
        Check.rule(x, "b*(1-2*(d=4))");
        // with consul 1 on days 0 and 4: 3 + 27 - 3 of a rule of four; with consul 0 always 36 - 9
        Check.due(x, "the fifth of five: no rule is so long", x.command(5), 2, 0, 27);
        Check.rule(x, "(b-4)*(1-2*(d=0))");
        Check.due(x, "the first of four", x.command(4), 4, 1, 16);
    }

    /** Promise 35: "that come again and again". */
    private static void commandAgainAndAgain() {
        CommandByTurns x = new CommandByTurns();
        String[] rests = {"d-d/2*2", "d-d/3*3", "d-d/4*4"};
        for (int days = 2; days <= 4; days++) {
            Check.rule(x, "b*(1-2*(" + rests[days - 2] + "=1))");
            // on days 1, 1 + days, .. consul 1 loses 3, on the others consul 0 wins 9; d goes round at 10
            Check.due(x, "every day 1 of " + days, x.command(2 * days), days, 2, 2 * (9 * (days - 1) - 3));
        }
        Check.rule(x, "b*(1-2*(d-d/2*2))");
        Check.due(x, "thirty days by turns", x.command(30), 2, 2, 15 * 9 - 15 * 3);
        Check.due(x, "29 days by turns", x.command(29), 2, 2, 15 * 9 - 14 * 3);
    }

    /** Promise 35: "nobody is sick". */
    private static void commandWhileNobodyIsSick() {
        CommandByTurns x = new CommandByTurns();
        Check.rule(x, "b");
        x.sick(0, 30);
        Check.due(x, "consul 0 is sick", x.command(30), 2, 0, 270);
        x.sick(1, 30);
        x.lend(0);
        Check.due(x, "both are sick", x.command(30), 2, 0, 270);
    }

    /** Promise 35: "The foe is NEAR on each of n DAYS .. as now, MEN and FOOD as now". */
    private static void commandAsNow() {
        CommandByTurns x = Check.on("3~1");
        Check.rule(x, "w*100+h*10+f+m-e");
        Check.due(x, "a river, heights, food, men", x.command(2), 2, 0, 340);
        x.foe(0);
        Check.due(x, "in his field", x.command(2), 2, 0, 100);
        Check.rule(x, "d");
        Check.halts(x, 8);
        Check.due(x, "days 8, 9, 0, 1", x.command(4), 2, 0, 18);
        Check.rule(x, "999");
        Check.due(x, "each within its bounds", x.command(30), 2, 0, 15000);
        CommandByTurns y = new CommandByTurns();
        Check.rule(y, "-500");
        y.fight();
        y.fight();
        Check.due(y, "without men, too", y.command(1), 2, 0, -500);
    }

    /** Promise 36: "x hundreds of MEN (0 ..; the hundreds it has at most) with consul 0, the rest with consul 1". */
    private static void halvesByHundreds() {
        int[][] dues = {{400, 0, 0}, {399, 1, 0}, {301, 99, 0}, {300, 100, 1}, {299, 101, 1}, {201, 199, 1}, {200, 200, 2}};
        for (int[] d : dues) {
            CommandByTurns x = new CommandByTurns();
            Check.rule(x, "-500");
            x.fight();
            Check.rule(x, "-" + d[0]);
            x.fight();
            Check.due("men", x.count(4), d[1]);
            Check.rule(x, "m*(b>5)");
            Check.due(x, "hundreds of " + d[1], x.halves(), d[2], 10 * d[2], 10 * d[2]);
            Check.rule(x, "m*(b<5)");
            Check.due(x, "the rest of " + d[1], x.halves(), 0, d[1] / 10, 0);
            Check.rule(x, "m");
            Check.due(x, "both of " + d[1], x.halves(), 0, d[1] / 10, 0);
        }
    }

    /** Promise 36: "x by which both ISSUES together are the most; of equal ones the least". */
    private static void halvesOfEqualOnes() {
        CommandByTurns x = new CommandByTurns();
        Check.rule(x, "7");
        Check.due(x, "all equal", x.halves(), 0, 14, 7);
        Check.rule(x, "(m=30)*(b>5)");
        Check.due(x, "three hundreds", x.halves(), 3, 1, 1);
        Check.rule(x, "(m=30)");
        Check.due(x, "three or six hundreds", x.halves(), 3, 1, 1);
        Check.rule(x, "(m=30)*(b<5)");
        Check.due(x, "the rest is three hundreds", x.halves(), 6, 1, 0);
        Check.rule(x, "(m=90)*(b>5)");
        Check.due(x, "all hundreds", x.halves(), 9, 1, 1);
        Check.rule(x, "-m");
        Check.due(x, "below 0", x.halves(), 0, -90, 0);
    }

    /** Promise 36: "the foe into two like parts (cut)". */
    private static void halvesOfTheFoe() {
        int[][] foes = {{1, 45}, {2, 45}, {19, 45}, {20, 46}, {21, 46}};
        for (int[] f : foes) {
            CommandByTurns x = new CommandByTurns();
            x.send(2, f[0]);
            Check.rule(x, "e");
            Check.due(x, "half of " + (900 + f[0]), x.halves(), 0, 2 * f[1], f[1]);
        }
        CommandByTurns y = new CommandByTurns();
        Check.rule(y, "500");
        y.fight();
        y.fight();
        Check.rule(y, "e+1");
        Check.due(y, "half of none", y.halves(), 0, 2, 1);
    }

    private static void halvesWithinTheBounds() {
        CommandByTurns x = new CommandByTurns();
        for (int i = 0; i < 10; i++) {
            x.send(1, 999);
        }
        Check.rule(x, "m*(b>5)");
        Check.due(x, "fifty of 99 hundreds are enough", x.halves(), 50, 500, 500);
        Check.rule(x, "(m=990)*(b>5)");
        Check.due(x, "all 99 hundreds", x.halves(), 99, 1, 1);
        Check.rule(x, "m");
        Check.due(x, "each within its bounds", x.halves(), 50, 999, 500);
        Check.rule(x, "-999");
        Check.due(x, "the worst", x.halves(), 0, -1000, -500);
    }

    /** Promise 36: "both fight where the army is and the foe is (NEAR or not, no RIVER between)". */
    private static void halvesNearOrNot() {
        CommandByTurns x = Check.on("9~50003");
        Check.rule(x, "h*10+w");
        int[] dues = {0, 40, 90, 90, 90, 60};
        for (int f = 0; f < 6; f++) {
            x.foe(f);
            Check.due(x, "the foe in " + f, x.halves(), 0, 2 * dues[f], dues[f]);
        }
        Check.rule(x, "b*10+l");
        x.set(0, 1, 7);
        Check.due(x, "each of its own consul", x.halves(), 0, 97 + 35, 97);
        Check.bothSick(x, 3);
        Check.due(x, "sick or not", x.halves(), 0, 97 + 35, 97);
        Check.rule(x, "f+d");
        Check.halts(x, 9);
        Check.due(x, "food and day as now", x.halves(), 0, 2 * (41 + 9), 41 + 9);
    }
}
