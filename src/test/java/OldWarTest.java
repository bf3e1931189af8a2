/** Promises 37 to 41: marches that were seen, ways, days that are sure, the day to ask about. */
public final class OldWarTest {
    public static void main(String[] args) {
        seenAndForgotten();
        ways();
        sureDays();
        asked();
        Check.finish();
    }

    private static void seenAndForgotten() {
        CommandByTurns x = new CommandByTurns();
        Check.due("seen(0, 0)", x.seen(0, 0), 1);
        Check.due("seen(19, 9)", x.seen(19, 9), 2);
        Check.due("told again", x.seen(19, 3), 2);
        int[][] wrong = {{-1, 1}, {20, 1}, {1, -1}, {1, 10}, {Integer.MAX_VALUE, 1}, {1, Integer.MIN_VALUE}};
        for (int[] w : wrong) {
            Check.due("seen(" + w[0] + ", " + w[1] + ")", x.seen(w[0], w[1]), -1);
        }
        Check.due("bits", x.count(9), 1 | 1 << 19);
        Check.due("seen() can't be undone", x.undo(), -1);
        Check.due("forget()", x.forget(), 2);
        Check.due("bits then", x.count(9), 0);
        Check.due("forget() again", x.forget(), 0);
    }

    private static void ways() {
        CommandByTurns x = new CommandByTurns();
        Check.due(x, "was(20, 1)", x.was(20, 1), 2, 0x55555);
        Check.due(x, "was(20, 2)", x.was(20, 2), 21892, least(20, 2));
        Check.due(x, "was(20, 3)", x.was(20, 3), 242830, least(20, 3));
        Check.due(x, "was(1, 1)", x.was(1, 1), 2, 0);
        Check.due(x, "was(4, 2)", x.was(4, 2), 10, 0b0010);
        x.seen(0, 3);
        Check.due(x, "day 0 was consul 0's", x.was(2, 1), 1, 2);
        x.seen(1, 2);
        Check.due(x, "day 1 can be either's", x.was(2, 2), 2, 0);
        x.seen(3, 4);
        Check.due(x, "days 0 and 3 were consul 0's", x.was(4, 2), 3, 0b0010);
        Check.due(x, "not by turns", x.was(4, 1), 0, -1);
        x.seen(2, 5);
        Check.due(x, "nobody marches so far", x.was(3, 3), 0, -1);
        Check.due(x, "days behind are not asked about", x.was(2, 3), 2, 0);
        x.forget();
        x.seen(0, 3);
        x.set(0, 0, 5);
        Check.due(x, "nobody has such a reach now", x.was(1, 1), 0, -1);
        x.set(1, 0, 6);
        Check.due(x, "consul 1 has", x.was(1, 1), 1, 1);
        int[][] wrong = {{0, 1}, {21, 1}, {-1, 1}, {2, 0}, {2, 4}};
        for (int[] w : wrong) {
            Check.due(x, "was(" + w[0] + ", " + w[1] + ")", x.was(w[0], w[1]), -1, 1);
            Check.due(x, "sure(" + w[0] + ", " + w[1] + ")", x.sure(w[0], w[1]), -1, 1);
            Check.due(x, "ask(" + w[0] + ", " + w[1] + ")", x.ask(w[0], w[1]), -1, 1);
        }
    }

    /** By trying all sets from the least on. */
    private static int least(int n, int k) {
        for (int set = 0; set < 1 << n; set++) {
            int run = 0;
            int longest = 0;
            for (int i = 0; i < n; i++) {
                run = i > 0 && (set >> i & 1) == (set >> i - 1 & 1) ? run + 1 : 1;
                longest = Math.max(longest, run);
            }
            if (longest <= k) {
                return set;
            }
        }
        return -1;
    }

    private static void sureDays() {
        CommandByTurns x = new CommandByTurns();
        Check.due(x, "nothing is sure", x.sure(20, 3), 0, 0);
        x.seen(0, 3);
        Check.due(x, "by turns all is sure", x.sure(20, 1), 0xFFFFF, 0xAAAAA);
        x.seen(1, 4);
        Check.due(x, "a third can't be consul 0's", x.sure(4, 2), 7, 4);
        Check.due(x, "if it can't be three", x.sure(4, 3), 3, 0);
        Check.due(x, "no ways", x.sure(4, 1), 0, 0);
        x.seen(2, 4);
        Check.due(x, "three", x.sure(4, 3), 15, 8);
    }

    private static void asked() {
        CommandByTurns x = new CommandByTurns();
        Check.due(x, "of equal ones the first", x.ask(3, 3), 0, 4);
        Check.due(x, "by turns one is left", x.ask(20, 1), 0, 1);
        Check.due(x, "twenty days", x.ask(20, 3), 0, 121415);
        x.seen(0, 3);
        Check.due(x, "not about a day that is sure", x.ask(3, 3), 1, 2);
        x.seen(1, 3);
        Check.due(x, "the third is sure, too", x.ask(4, 2), 3, 1);
        Check.due(x, "no ways", x.ask(2, 1), -2, 1);
        Check.due(x, "one way", x.ask(2, 2), 0, 1);
    }
}
