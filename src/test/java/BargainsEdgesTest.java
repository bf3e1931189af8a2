/** Promises 33 and 34: each sentence at its boundaries. */
public final class BargainsEdgesTest {
    public static void main(String[] args) {
        bargainsWithMoreForBoth();
        bargainsOfTheGreatestSum();
        bargainsOfTwentyDays();
        bargainsByWhoseTheyAre();
        sharesByNumber();
        sharesOfFewDays();
        sharesOfEqualOnes();
        sharesOfNobodysDays();
        sharesOfTwentyDays();
        Check.finish();
    }

    /** Promise 33: "each WISH for the other's DAY is greater than for its own"; "nothing without". */
    private static void bargainsWithMoreForBoth() {
        Object[][] wishes = {{"01", "10", 1, 2}, {"00", "10", 0, 0}, {"01", "00", 0, 0}, {"11", "10", 0, 0}, {"01", "11", 0, 0},
            {"10", "01", 0, 0}, {"12", "21", 1, 2}, {"09", "90", 1, 18}, {"89", "98", 1, 2}, {"99", "90", 0, 0},
            {"10", "90", 0, 0}, {"0", "0", 0, 0}, {"011", "002", 0, 0}, {"001", "022", 0, 0}};
        for (Object[] w : wishes) {
            CommandByTurns x = new CommandByTurns();
            x.march(1);
            x.undo();
            Check.wishes(x, 0, (String) w[0]);
            Check.wishes(x, 1, (String) w[1]);
            String call = "bargain() of " + w[0] + " and " + w[1];
            if ((int) w[2] == 0) {
                Check.due(x, call, x.bargain(), 0);
            } else {
                Check.due(x, call, x.bargain(), (int) w[2], 0, 1, (int) w[3]);
            }
        }
    }

    /** Promise 33: "the one with the greatest sum of both gains .. of as good ones the least row". */
    private static void bargainsOfTheGreatestSum() {
        CommandByTurns x = new CommandByTurns();
        Check.wishes(x, 0, "0101");
        Check.wishes(x, 1, "1010");
        Check.due(x, "four as good ones", x.bargain(), 4, 0, 1, 2);
        Check.wishes(x, 0, "0102");
        Check.due(x, "a later day of consul 1 is better", x.bargain(), 4, 0, 3, 3);
        Check.wishes(x, 1, "1020");
        Check.due(x, "a later day of both is better", x.bargain(), 4, 2, 3, 4);
        Check.wishes(x, 0, "0201");
        Check.due(x, "a later day of consul 0 is better", x.bargain(), 4, 2, 1, 4);
        // pairs 0 and 3, 2 and 1, with 3 each; 0 and 1 is nothing to consul 0, 2 and 3 nothing to consul 1
        Check.wishes(x, 0, "2203");
        Check.wishes(x, 1, "3011");
        Check.due(x, "of as good ones the lower first number", x.bargain(), 2, 0, 3, 3);
    }

    /** "of WISHES for the next 20 DAYS". */
    private static void bargainsOfTwentyDays() {
        CommandByTurns x = new CommandByTurns();
        Check.wishes(x, 0, "00000000000000000001");
        Check.wishes(x, 1, "1");
        Check.due(x, "the twentieth day", x.bargain(), 1, 0, 19, 2);
        x.halt();
        Check.wishes(x, 0, "9");
        Check.wishes(x, 1, "00000000000000000008");
        x.undo();
        Check.due(x, "the twenty-first day, consul 0's", x.bargain(), 0);
        x.halt();
        Check.due(x, "the twentieth day, a day later", x.bargain(), 1, 19, 0, 17);
        x.halt();
        Check.due(x, "a day that is past", x.bargain(), 0);
        CommandByTurns y = new CommandByTurns();
        Check.wishes(y, 1, "1");
        y.halt();
        Check.wishes(y, 0, "00000000000000000009");
        y.undo();
        y.lend(20);
        Check.due(y, "the twenty-first day, consul 1's", y.bargain(), 0);
        y.lend(20);
        y.halt();
        Check.wishes(y, 1, "01");
        y.lend(20);
        Check.due(y, "the twentieth day, consul 1's", y.bargain(), 1, 1, 19, 10);
    }

    private static void bargainsByWhoseTheyAre() {
        CommandByTurns x = new CommandByTurns();
        Check.wishes(x, 0, "901");
        Check.wishes(x, 1, "080");
        Check.due(x, "nobody gains", x.bargain(), 0);
        x.lend(0);
        x.lend(1);
        Check.due(x, "both days lent", x.bargain(), 1, 1, 0, 17);
        x.lend(1);
        Check.due(x, "consul 0's days bring no more", x.bargain(), 0);
        x.lend(1);
        x.sick(0, 1);
        Check.due(x, "as lent", x.bargain(), 1, 1, 0, 17);
        x.sick(1, 1);
        Check.due(x, "nobody's day", x.bargain(), 0);
    }

    /** Promise 34: "of the next n DAYS (1 .. 20)", "NONE: another n". */
    private static void sharesByNumber() {
        Check.range("share(n)", 1, 20, n -> new CommandByTurns().share(n));
        for (int n : new int[] {Integer.MIN_VALUE, -1, 0, 21, Integer.MAX_VALUE}) {
            Twin.refused("share(" + n + ")", x -> x.share(n));
        }
    }

    /** Promise 34: "each having as many as now"; "what the sum is now". */
    private static void sharesOfFewDays() {
        CommandByTurns x = new CommandByTurns();
        Check.wishes(x, 0, "19");
        Check.wishes(x, 1, "80");
        Check.due(x, "a day, which stays", x.share(1), 1, 1, 1);
        Check.due(x, "two days, changed", x.share(2), 17, 2, 1);
        Check.due(x, "a third day, worth nothing", x.share(3), 17, 6, 1);
        x.halt();
        Check.due(x, "a day of consul 1", x.share(1), 0, 0, 0);
        Check.due(x, "and one of consul 0", x.share(2), 9, 1, 0);
        CommandByTurns y = new CommandByTurns();
        Check.wishes(y, 0, "9999");
        Check.wishes(y, 1, "1111");
        Check.due(y, "not more days for the one that wishes more", y.share(4), 20, 3, 20);
        y.sick(1, 4);
        Check.due(y, "all are consul 0's", y.share(4), 36, 15, 36);
        y.sick(0, 4);
        y.sick(1, 1);
        Check.due(y, "none is consul 0's", y.share(4), 3, 0, 3);
    }

    /** Promise 34: "DAYS (bits) that are consul 0's then: of as good ones the least". */
    private static void sharesOfEqualOnes() {
        CommandByTurns x = new CommandByTurns();
        Check.due(x, "no wishes", x.share(3), 0, 3, 0);
        Check.due(x, "no wishes", x.share(4), 0, 3, 0);
        Check.due(x, "no wishes", x.share(20), 0, 1023, 0);
        Check.wishes(x, 0, "0110");
        Check.due(x, "two of consul 0's", x.share(4), 2, 6, 1);
        Check.wishes(x, 0, "0001");
        Check.due(x, "the best, then the first", x.share(4), 1, 9, 0);
        Check.wishes(x, 1, "1000");
        Check.due(x, "not the first, which the other one wishes", x.share(4), 2, 10, 0);
        Check.wishes(x, 0, "1111");
        Check.wishes(x, 1, "1111");
        Check.due(x, "both wish alike", x.share(4), 4, 3, 4);
    }

    /** Promise 34: "(nobody's DAYS to nobody)". */
    private static void sharesOfNobodysDays() {
        CommandByTurns x = new CommandByTurns();
        Check.wishes(x, 0, "9199");
        Check.wishes(x, 1, "9911");
        Check.bothSick(x, 1);
        Check.due(x, "today is nobody's", x.share(1), 0, 0, 0);
        Check.due(x, "tomorrow is not", x.share(2), 9, 0, 9);
        Check.due(x, "nor the day behind", x.share(3), 18, 4, 18);
        Check.bothSick(x, 2);
        Check.due(x, "two days are", x.share(4), 10, 4, 10);
        Check.bothSick(x, 4);
        Check.due(x, "all are", x.share(4), 0, 0, 0);
        Check.bothSick(x, 20);
        Check.due(x, "all of twenty are", x.share(20), 0, 0, 0);
    }

    private static void sharesOfTwentyDays() {
        CommandByTurns x = new CommandByTurns();
        Check.wishes(x, 0, "00000000000000000009");
        Check.due(x, "nineteen days", x.share(19), 0, 1023, 0);
        Check.due(x, "twenty days", x.share(20), 9, 511 | 1 << 19, 0);
        x.halt();
        Check.due(x, "eighteen days, a day later", x.share(18), 0, 511, 0);
        Check.due(x, "nineteen days, a day later", x.share(19), 9, 255 | 1 << 18, 0);
    }
}
