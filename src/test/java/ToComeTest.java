/** Promises 21 to 28: whose days come, what a battle would be, reach, the evening, food, boldness, arrivals. */
public final class ToComeTest {
    private static final String GROUND = "0~5312~4";

    public static void main(String[] args) {
        comes();
        issues();
        reaches();
        evenings();
        food();
        boldness();
        arrivals();
        Check.finish();
    }

    private static void comes() {
        CommandByTurns x = new CommandByTurns();
        Check.due(x, "comes(0, 30)", x.comes(0, 30), 0x15555555, 15, 0);
        Check.due(x, "comes(1, 30)", x.comes(1, 30), 0x2AAAAAAA, 15, 0);
        Check.due(x, "comes(1, 1)", x.comes(1, 1), 0, 0, 0);
        x.sick(0, 2);
        x.sick(1, 1);
        x.lend(3);
        Check.due(x, "comes(0, 4)", x.comes(0, 4), 12, 2, 1);
        Check.due(x, "comes(1, 4)", x.comes(1, 4), 2, 1, 1);
        x.halt();
        Check.due(x, "comes(0, 3) a day later", x.comes(0, 3), 6, 2, 0);
        int[][] wrong = {{2, 5}, {-1, 5}, {0, 0}, {0, 31}, {1, -1}};
        for (int[] w : wrong) {
            Check.due(x, "comes(" + w[0] + ", " + w[1] + ")", x.comes(w[0], w[1]), -1, 2, 0);
        }
    }

    private static void issues() {
        CommandByTurns x = Check.on(GROUND);
        // 30 or 12, 4 for each height
        Check.due(x, "issue(4, 0)", x.issue(4, 0), 501 + 30 - 8, 0);
        Check.due(x, "issue(4, 1)", x.issue(4, 1), 501 + 12 - 8, 1);
        Check.due(x, "issue(5, 30)", x.issue(5, 30), 531, 0);
        x.foe(3);
        Check.due(x, "issue(2, 0)", x.issue(2, 0), 501 + 30 + 8, 0);
        Check.due("not near", x.issue(5, 0), -3);
        Check.due("not near on the other side", x.issue(1, 0), -3);
        Check.rule(x, "f+d");
        Check.due(x, "food as now", x.issue(4, 29), 501 + 50 + 9, 1);
        x.sick(0, 3);
        x.sick(1, 2);
        Check.due("nobody's", x.issue(4, 1), -2);
        Check.due("nobody's is asked ahead of not near", x.issue(0, 1), -2);
        Check.rowIs(x, "what can't be told", 1);
        Check.due(x, "consul 1 for the sick one", x.issue(4, 2), 553, 1);
        int[][] wrong = {{6, 0}, {-1, 0}, {4, -1}, {4, 31}};
        for (int[] w : wrong) {
            Check.due(x, "issue(" + w[0] + ", " + w[1] + ")", x.issue(w[0], w[1]), -1, 1);
        }
        Check.due("men are not asked about", noMen().issue(0, 0), 1);
    }

    private static CommandByTurns noMen() {
        CommandByTurns x = new CommandByTurns();
        Check.rule(x, "-500");
        x.fight();
        x.fight();
        return x;
    }

    private static void reaches() {
        CommandByTurns x = Check.on(GROUND);
        Check.due(x, "reach(0) from 0", x.reach(0), 15, 4);
        Check.due(x, "reach(1) from 0", x.reach(1), 3, 2);
        x.march(3);
        Check.due(x, "reach(0) from 3", x.reach(0), 63, 6);
        Check.due(x, "reach(1) from 3", x.reach(1), 30, 4);
        x.foe(4);
        Check.due(x, "not past the foe", x.reach(0), 31, 5);
        x.foe(2);
        Check.due(x, "not past the foe below", x.reach(0), 60, 4);
        x.foe(3);
        Check.due(x, "from the foe's own field", x.reach(0), 63, 6);
        x.set(1, 0, 2);
        Check.due(x, "reach 1", x.reach(1), 28, 3);
        Check.due(x, "no such consul", x.reach(2), -1, 3);
        Check.due(x, "no such consul", x.reach(-1), -1, 3);
    }

    private static void evenings() {
        CommandByTurns x = Check.on("905");
        Check.due(x, "the foe's field is best", x.evening(), 2, 501 + 12);
        CommandByTurns y = Check.on("050");
        Check.due(y, "the hill is best", y.evening(), 1, 501 + 32);
        y.lend(1);
        Check.due(y, "by consul 0 tomorrow", y.evening(), 1, 501 + 50);
        CommandByTurns z = Check.on("09");
        Check.due(z, "the least bad", z.evening(), 1, 501 + 12);
        Check.rule(z, "-5");
        Check.due(z, "all alike: it stays", z.evening(), 0, 496);
        Check.rule(z, "d-1");
        Check.due(z, "tomorrow's day", z.evening(), 0, 501);
        CommandByTurns v = Check.on("07070");
        v.march(2);
        v.foe(2);
        Check.due(v, "two as near: the lowest", v.evening(), 1, 501 + 30 + 28);
        CommandByTurns w = Check.on("000000");
        Check.rule(w, "-7");
        w.march(4);
        Check.due(w, "out of reach of a battle, the nearest", w.evening(), 3, 501);
        w.sick(0, 1);
        w.sick(1, 1);
        Check.due(w, "nobody's day", w.evening(), -2, 501);
        Check.due("it changes nothing", w.count(2), 4);
    }

    private static void food() {
        CommandByTurns x = new CommandByTurns();
        Check.due("lasts()", x.lasts(), 51);
        x.send(0, 489);
        Check.due("989 by 10", x.lasts(), 99);
        x.send(0, 1);
        Check.due("990 by 10", x.lasts(), -2);
        x.undo();
        x.undo();
        x.send(1, 100);
        Check.due("500 by 11", x.lasts(), 46);
        x.undo();
        Check.due(x, "feeds(0)", x.feeds(0), 900, 500);
        Check.due(x, "feeds(50)", x.feeds(50), 900, 0);
        Check.due(x, "feeds(51)", x.feeds(51), 810, 0);
        Check.due(x, "feeds(52)", x.feeds(52), 729, 0);
        Check.due(x, "feeds(53), a tenth of 729 is cut", x.feeds(53), 657, 0);
        Check.due(x, "feeds(100)", x.feeds(100), -1, 0);
        Check.due(x, "feeds(-1)", x.feeds(-1), -1, 0);
        Check.due("nothing is eaten", x.count(6), 500);
        for (int i = 0; i < 50; i++) {
            x.halt();
        }
        Check.due("no food", x.lasts(), 1);
        Check.due(x, "feeds(99) is the men of 99 nights", x.feeds(99), byHand(900, 99), 0);
        Check.due("no men take 1", noMen().lasts(), -2);
    }

    private static int byHand(int men, int nights) {
        int left = men;
        for (int i = 0; i < nights; i++) {
            left -= left / 10;
        }
        return left;
    }

    private static void boldness() {
        CommandByTurns x = Check.on(GROUND);
        Check.due(x, "boldness(4)", x.boldness(4), 18, 523, 505);
        x.set(0, 1, 2);
        x.set(1, 1, 7);
        Check.rule(x, "l-b");
        Check.due(x, "below 0", x.boldness(5), -11, 494, 505);
        Check.due(x, "not near", x.boldness(3), -2000, 494, 505);
        Check.due(x, "none such", x.boldness(6), -1000, 494, 505);
        Check.due(x, "none such", x.boldness(-1), -1000, 494, 505);
        x.sick(0, 3);
        x.sick(1, 3);
        Check.due("the sick ones are asked too", x.boldness(5), -11);
        Check.rule(x, "d+w*100");
        Check.due(x, "a river", x.boldness(4), 0, 601, 601);
    }

    private static void arrivals() {
        CommandByTurns x = Check.on(GROUND);
        Check.due(x, "there", x.arrives(0), 0);
        Check.due(x, "a day", x.arrives(3), 1, 3);
        Check.due(x, "three days, the least row", x.arrives(5), 3, 1, 2, 5);
        Check.due(x, "none such", x.arrives(6), -1, 1, 2, 5);
        Check.due(x, "none such", x.arrives(-1), -1, 1, 2, 5);
        CommandByTurns y = Check.on("00000");
        y.foe(2);
        Check.due(y, "not past the foe, but by his field", y.arrives(4), 2, 2, 4);
        y.sick(0, 3);
        y.sick(1, 3);
        Check.due(y, "three days are nobody's", y.arrives(1), 4, 0, 0, 0, 1);
        CommandByTurns z = Check.on("1~2~3~4~5~6~7~8~9~0~1~2");
        z.set(0, 0, 0);
        long[] row = new long[20];
        for (int i = 0; i < 20; i++) {
            row[i] = (i + 1) / 2;
        }
        Check.due(z, "twenty days", z.arrives(10), 20, row);
        Check.due(z, "not in 20", z.arrives(11), -2, row);
        z.set(1, 0, 0);
        Check.due("not at all", z.arrives(1), -2);
    }
}
