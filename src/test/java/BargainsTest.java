/** Promises 33 and 34: pairs of days to change, and the best share of days. */
public final class BargainsTest {
    public static void main(String[] args) {
        bargains();
        shares();
        Check.finish();
    }

    private static void bargains() {
        CommandByTurns x = new CommandByTurns();
        x.halt();
        x.undo();
        Check.rowIs(x, "halt()", 0);
        Check.due(x, "no wishes", x.bargain(), 0);
        Check.wishes(x, 0, "19");
        Check.wishes(x, 1, "80");
        Check.due(x, "one pair", x.bargain(), 1, 0, 1, 16);
        Check.wishes(x, 0, "0101");
        Check.wishes(x, 1, "1010");
        Check.due(x, "four pairs, the least row", x.bargain(), 4, 0, 1, 2);
        Check.wishes(x, 0, "0102");
        Check.due(x, "the greatest sum", x.bargain(), 4, 0, 3, 3);
        Check.wishes(x, 0, "0000");
        Check.due(x, "both must have more", x.bargain(), 0);
        Check.wishes(x, 0, "00000000000000000005");
        Check.wishes(x, 1, "5");
        Check.due(x, "twenty days", x.bargain(), 1, 0, 19, 10);
        x.sick(0, 1);
        x.sick(1, 1);
        Check.due(x, "nobody's day", x.bargain(), 0);
        x.undo();
        x.undo();
        x.lend(0);
        Check.due(x, "whose it is then", x.bargain(), 0);
        x.halt();
        Check.due(x, "told by the day", x.bargain(), 0);
        Check.wishes(x, 0, "90");
        Check.wishes(x, 1, "08");
        Check.due(x, "from consul 1's day on", x.bargain(), 1, 1, 0, 17);
        x.halt();
        Check.wishes(x, 0, "3502");
        x.halt();
        Check.wishes(x, 1, "0604");
        x.halt();
        // today is day 4: 0 2 are consul 0's for days 4 5, 6 0 4 are consul 1's for days 4 5 6
        Check.due(x, "each told on a day of its own", x.bargain(), 2, 0, 1, 8);
    }

    private static void shares() {
        CommandByTurns x = new CommandByTurns();
        Check.due(x, "no wishes: the least bits", x.share(4), 0, 3, 0);
        Check.wishes(x, 0, "19");
        Check.wishes(x, 1, "80");
        Check.due(x, "share(1)", x.share(1), 1, 1, 1);
        Check.due(x, "share(2)", x.share(2), 17, 2, 1);
        Check.due(x, "share(3)", x.share(3), 17, 6, 1);
        Check.wishes(x, 0, "9999");
        Check.wishes(x, 1, "0000");
        Check.due(x, "each as many as now", x.share(4), 18, 3, 18);
        x.sick(0, 2);
        x.sick(1, 2);
        Check.due(x, "nobody's days to nobody", x.share(4), 9, 4, 9);
        x.undo();
        Check.due(x, "consul 1 has three", x.share(4), 9, 1, 9);
        Check.due(x, "share(0)", x.share(0), -1, 1, 9);
        Check.due(x, "share(21)", x.share(21), -1, 1, 9);
        CommandByTurns y = new CommandByTurns();
        Check.wishes(y, 0, "99999999990000000000");
        Check.wishes(y, 1, "00000000009999999999");
        Check.due(y, "twenty days", y.share(20), 180, 1023, 90);
        y.halt();
        Check.due(y, "a day later", y.share(20), 171, 511 | 1 << 19, 81);
    }
}
