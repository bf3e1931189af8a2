/** Promises 42 to 45: rain, a vote of tribunes, legions that are asked for, wars drawn by a seed. */
public final class ChanceTest {
    public static void main(String[] args) {
        rain();
        votes();
        rests();
        yearsDrawn();
        yearsAtTheEdges();
        Check.finish();
    }

    private static void rain() {
        CommandByTurns x = new CommandByTurns();
        Check.due(x, "rain(0, 0)", x.rain(0, 0), 0, 1, 1);
        Check.due(x, "rain(1, 0)", x.rain(1, 0), 0, 0, 1);
        Check.due(x, "rain(2, 0)", x.rain(2, 0), 0, 1, 1);
        Check.due(x, "rain(12, 10)", x.rain(12, 10), 0, 1, 1);
        Check.due(x, "rain(12, 5)", x.rain(12, 5), 0, 1, 2);
        Check.due(x, "rain(1, 3)", x.rain(1, 3), 0, 3, 10);
        Check.due(x, "rain(2, 3)", x.rain(2, 3), 0, 29, 50);
        // (1 + (-4 / 5) to the twelfth) / 2
        Check.due(x, "rain(12, 1)", x.rain(12, 1), 0, 260917841, 488281250);
        int[][] wrong = {{-1, 5}, {13, 5}, {3, -1}, {3, 11}};
        for (int[] w : wrong) {
            Check.due(x, "rain(" + w[0] + ", " + w[1] + ")", x.rain(w[0], w[1]), -1, 260917841, 488281250);
        }
        x.halt();
        Check.due(x, "today is consul 0's, whosever it is", x.rain(0, 3), 0, 1, 1);
    }

    private static void votes() {
        CommandByTurns x = new CommandByTurns();
        Check.due("stops(1, 3)", x.stops(1, 3), 300000);
        Check.due("stops(4, 5), two of four", x.stops(4, 5), 687500);
        Check.due("stops(3, 5), one of three", x.stops(3, 5), 875000);
        Check.due("stops(7, 1), cut", x.stops(7, 1), 25691);
        Check.due("stops(15, 10)", x.stops(15, 10), 1000000);
        Check.due("stops(15, 0)", x.stops(15, 0), 0);
        Check.due("stops(6, 10)", x.stops(6, 10), 1000000);
        int[][] wrong = {{0, 5}, {16, 5}, {3, -1}, {3, 11}};
        for (int[] w : wrong) {
            Check.due("stops(" + w[0] + ", " + w[1] + ")", x.stops(w[0], w[1]), -1);
        }
        Check.rowIs(x, "stops() tells none");
    }

    private static void rests() {
        CommandByTurns x = new CommandByTurns();
        Check.due(x, "rests()", x.rests(), 51, 0, 9);
    }

    /** The draws: seed 0: 0 0 0 1; 1: 2 2 1; 4: 1 2 3; 10: 3 2; 137: 0 0 2. */
    private static void yearsDrawn() {
        CommandByTurns x = new CommandByTurns();
        Check.due(x, "a battle", x.years(1, 1), 1, 890, 870, 491);
        Check.due(x, "and one by consul 1", x.years(1, 2), 2, 886, 857, 482);
        Check.due(x, "a march", x.years(0, 1), 0, 900, 900, 490);
        Check.due("nothing changes", x.count(1) + x.count(2), 0);
        Check.due("nothing changes", x.count(6), 500);
        Check.due("nothing can be undone", x.count(10), 0);
        Check.due(x, "no field back", x.years(4, 2), 1, 896, 888, 481);
        CommandByTurns y = Check.on("0000");
        y.foe(2);
        y.march(1);
        Check.due(y, "back, and no battle", y.years(4, 2), 0, 900, 900, 470);
        CommandByTurns z = Check.on("000");
        z.foe(0);
        z.march(1);
        Check.due(z, "back up", z.years(4, 2), 0, 900, 900, 470);
        CommandByTurns w = Check.on("0~0~0~0");
        w.set(0, 0, 0);
        w.set(1, 0, 0);
        Check.rule(w, "7");
        Check.due(w, "reach and rivers aside", w.years(137, 3), 1, 898, 893, 471);
        Check.due(x, "years(1, 0)", x.years(1, 0), -1, 896, 888, 481);
        Check.due(x, "years(1, 61)", x.years(1, 61), -1, 896, 888, 481);
        Check.due("sixty days", x.years(1, 60) >= 0, true);
    }

    private static void yearsAtTheEdges() {
        CommandByTurns x = Check.on("500");
        x.foe(1);
        x.march(1);
        Check.rule(x, "h*10");
        Check.due(x, "from his own field: the one below", x.years(4, 2), 1, 884, 850, 471);
        CommandByTurns y = Check.on("050");
        y.foe(0);
        Check.rule(y, "h*10");
        Check.due(y, "from his own field 0: it stays", y.years(4, 2), 1, 900, 900, 480);
        Check.due(y, "in his field it does not go on", y.years(137, 3), 1, 900, 900, 470);
        CommandByTurns z = new CommandByTurns();
        z.sick(0, 1);
        z.sick(1, 1);
        Check.rule(z, "b");
        Check.due(z, "nobody's day has a draw, too", z.years(10, 2), 1, 899, 897, 481);
        Check.due(z, "nobody's day is no battle", z.years(1, 2), 1, 899, 897, 481);
        CommandByTurns w = new CommandByTurns();
        Check.rule(w, "-500");
        w.fight();
        w.fight();
        Check.due(w, "without men no battle", w.years(1, 2), 0, 0, 568, 492);
        CommandByTurns v = new CommandByTurns();
        Check.rule(v, "500");
        v.fight();
        v.fight();
        Check.due(v, "without the foe's men no battle", v.years(1, 2), 0, 568, 0, 474);
        Check.due("a seed below 0", new CommandByTurns().years(-1, 4), 2);
    }
}
