/** Promises 29 to 32: each sentence at its boundaries. */
public final class GamesEdgesTest {
    private static final int MIN = Integer.MIN_VALUE;
    private static final int MAX = Integer.MAX_VALUE;
    private static final String PLAIN = "000000000000";

    public static void main(String[] args) {
        avoidsByNumber();
        avoidsTillNear();
        avoidsOnWhoseDay();
        avoidsTheFoeBelow();
        avoidsOverRivers();
        avoidsByTheLeastRow();
        avoidsUpToTwenty();
        safeByNumber();
        safeFields();
        safeIsAvoids();
        forcesByNumber();
        forcesTells();
        forcesByNone();
        forcesTheFewestThenTheLeast();
        offersByNumber();
        offersTells();
        offersOnNobodysDays();
        offersAsIfHeCameNextToIt();
        Check.finish();
    }

    /** Promise 29: "of the next n DAYS (1 .. 20)", "NONE: another n". */
    private static void avoidsByNumber() {
        Check.range("avoids(n)", 1, 20, n -> new CommandByTurns().avoids(n));
        for (int n : new int[] {MIN, -1, 0, 21, MAX}) {
            Twin.refused("avoids(" + n + ")", x -> x.avoids(n));
        }
    }

    /** "it is a battle, if they are NEAR on a day of consul 0, behind its move". */
    private static void avoidsTillNear() {
        CommandByTurns x = Check.on(PLAIN);
        int[] foes = {4, 5, 6, 7};
        int[] dues = {0, 0, 1, 1};
        for (int i = 0; i < foes.length; i++) {
            x.foe(foes[i]);
            Check.due("the foe in " + foes[i], x.avoids(1), dues[i]);
            Check.due("as many fields", x.count(11), dues[i]);
        }
        Check.due("as near as it can", x.row(0), 4);
        x.foe(11);
        Check.due(x, "one day less than till the battle", x.avoids(5), 5, 4, 2, 6, 4, 8);
        Check.due(x, "all days till the battle", x.avoids(6), 6, 4, 2, 6, 4, 8, 6);
        Check.due(x, "one day more", x.avoids(7), 6, 4, 2, 6, 4, 8, 6);
        Check.due(x, "two days more", x.avoids(8), 6, 4, 2, 6, 4, 8, 6);
        CommandByTurns y = new CommandByTurns();
        Check.due(y, "near at once: no field", y.avoids(20), 0);
        y.foe(0);
        Check.due(y, "in his field at once: no field", y.avoids(1), 0);
    }

    /** "on each DAY its consul moves", "nobody's days: it stays". */
    private static void avoidsOnWhoseDay() {
        CommandByTurns x = new CommandByTurns();
        x.halt();
        Check.due(x, "near on a day of consul 1", x.avoids(1), 1, 0);
        Check.due(x, "then on a day of consul 0", x.avoids(2), 1, 0);
        Check.bothSick(x, 1);
        Check.due(x, "near on nobody's day", x.avoids(1), 1, 0);
        Check.due(x, "then on a day of consul 0", x.avoids(2), 1, 0);
        Check.bothSick(x, 2);
        Check.due(x, "two of nobody's, one of consul 1's", x.avoids(4), 3, 0, 0, 0);
        x.lend(3);
        Check.due(x, "that one is lent", x.avoids(4), 2, 0, 0);
        x.sick(0, 20);
        Check.due("consul 0 is sick", x.avoids(20), 20);
    }

    private static void avoidsTheFoeBelow() {
        CommandByTurns x = Check.on(PLAIN);
        x.foe(0);
        Check.war(x, ">4>2>4");
        Check.due("the army", x.count(2), 10);
        Check.due(x, "consul 1 first, up to the end", x.avoids(6), 6, 10, 6, 8, 4, 6, 2);
        Check.due(x, "then a battle", x.avoids(8), 7, 10, 6, 8, 4, 6, 2, 0);
        x.foe(5);
        Check.due(x, "from his other side", x.avoids(2), 2, 11, 7);
        x.foe(8);
        Check.due(x, "too near", x.avoids(2), 1, 8);
    }

    /** "as reach() of it": a river counts for one field more. */
    private static void avoidsOverRivers() {
        CommandByTurns x = Check.on("000~0000");
        Check.due(x, "three fields with the river", x.avoids(1), 1, 3);
        CommandByTurns y = Check.on("0000000");
        Check.due(y, "four fields without", y.avoids(1), 1, 4);
        y.foe(5);
        Check.due(y, "near without", y.avoids(1), 0);
        x.foe(5);
        Check.due(x, "not near with the river", x.avoids(1), 1, 3);
        CommandByTurns z = Check.on("0~0000");
        z.set(0, 0, 0);
        Check.due("it never gets over the river alone", z.avoids(20), 20);
    }

    /** Promise 29: "of those with as many the least row". */
    private static void avoidsByTheLeastRow() {
        CommandByTurns x = Check.on(PLAIN);
        x.halt();
        Check.due(x, "where it is", x.avoids(1), 1, 0);
        x.undo();
        Check.war(x, ">4");
        Check.due(x, "the lowest that can be", x.avoids(1), 1, 2);
        x.sick(1, 1);
        Check.due(x, "consul 0 has no choice", x.avoids(1), 1, 8);
    }

    private static void avoidsUpToTwenty() {
        int[] sick = {18, 19, 20};
        int[] of19 = {18, 19, 19};
        int[] of20 = {18, 19, 20};
        for (int i = 0; i < sick.length; i++) {
            CommandByTurns x = new CommandByTurns();
            x.halt();
            x.lend(19);
            Check.bothSick(x, sick[i]);
            Check.due("19 days, " + sick[i] + " nobody's", x.avoids(19), of19[i]);
            Check.due("fields", x.count(11), of19[i]);
            Check.due("20 days, " + sick[i] + " nobody's", x.avoids(20), of20[i]);
            Check.due("fields", x.count(11), of20[i]);
        }
    }

    /** Promise 30: "NONE: another n". */
    private static void safeByNumber() {
        Check.range("safe(n)", 1, 20, n -> new CommandByTurns().safe(n));
        for (int n : new int[] {MIN, -1, 0, 21, MAX}) {
            Twin.refused("safe(" + n + ")", x -> x.safe(n));
        }
    }

    /** Promise 30: "The FIELDS (bits) in which the army could be now ..; the ROW: how many". */
    private static void safeFields() {
        CommandByTurns x = Check.on(PLAIN);
        int[][] dues = {{1, 0b111111}, {2, 0b111111}, {3, 0b1111}, {4, 0b1111}, {5, 0b11}, {6, 0b11}, {7, 0}, {20, 0}};
        for (int[] d : dues) {
            Check.due(x, "safe(" + d[0] + ")", x.safe(d[0]), d[1], Integer.bitCount(d[1]));
        }
        x.march(4);
        Check.due(x, "a day of consul 1: all", x.safe(1), 0xFFF, 12);
        Check.due(x, "then one of consul 0", x.safe(2), 0b11111111, 8);
        CommandByTurns y = new CommandByTurns();
        Check.due(y, "all are near", y.safe(1), 0, 0);
        y.halt();
        Check.due(y, "on a day of consul 1", y.safe(1), 3, 2);
        Check.due(y, "all are near then", y.safe(2), 0, 0);
        Check.bothSick(y, 20);
        Check.due(y, "nobody's days", y.safe(20), 3, 2);
        Check.bothSick(y, 19);
        Check.due(y, "all but the last", y.safe(19), 3, 2);
        Check.due(y, "the last is consul 0's", y.safe(20), 0, 0);
    }

    private static void safeIsAvoids() {
        for (int n : new int[] {1, 2, 3, 5, 8, 19, 20}) {
            CommandByTurns x = Check.on("00~000~00000");
            x.set(0, 0, 3);
            x.foe(7);
            int bits = x.safe(n);
            for (int f = 0; f < 10; f++) {
                CommandByTurns y = Check.on("00~000~00000");
                y.set(0, 0, 9);
                y.set(1, 0, 9);
                toField(y, f);
                y.set(0, 0, 3);
                y.set(1, 0, 3);
                y.foe(7);
                Check.due("from " + f + " all " + n + " days", y.avoids(n) == n, (bits >> f & 1) == 1);
            }
        }
    }

    /** Marches there, then goes to a day of consul 0. */
    private static void toField(CommandByTurns x, int field) {
        for (int i = 0; i < 12 && x.count(2) < field; i++) {
            x.march(1);
        }
        Check.halts(x, x.count(1) % 2);
        Check.due("the army", x.count(2), field);
        Check.due("consul 0's day", x.whose(), 0);
    }

    /** Promise 31: "of the next n (1 .. 10)", "NONE: another n". */
    private static void forcesByNumber() {
        Check.range("forces(n)", 1, 10, n -> new CommandByTurns().forces(n));
        for (int n : new int[] {MIN, -1, 0, 11, MAX}) {
            Twin.refused("forces(" + n + ")", x -> x.forces(n));
        }
    }

    /** Promise 31: "how many (0: it is so now); the ROW: they". */
    private static void forcesTells() {
        CommandByTurns x = Check.on(PLAIN);
        int[][] dues = {{3, 1, 2}, {4, 1, 2}, {5, 1, 2}, {6, 1, 2}, {7, 0, 0}, {8, 0, 0}, {10, 0, 0}};
        for (int[] d : dues) {
            Check.due(x, "forces(" + d[0] + ")", x.forces(d[0]), d[1], d[2]);
        }
        CommandByTurns y = new CommandByTurns();
        Check.due(y, "today", y.forces(1), 0, 0);
        y.halt();
        Check.due(y, "today is consul 1's", y.forces(1), 1, 1);
        Check.due(y, "tomorrow is not", y.forces(2), 0, 0);
        y.sick(0, 10);
        Check.due(y, "all are consul 1's", y.forces(10), 1, 1);
    }

    /** Promise 31: "-2: by none". */
    private static void forcesByNone() {
        Twin.refused("two days are too few", () -> Check.on(PLAIN), x -> x.forces(2), -2);
        Twin.refused("one day is too few", () -> Check.on(PLAIN), x -> x.forces(1), -2);
        Twin.refused("nobody's days", GamesEdgesTest::nobodys, x -> x.forces(10), -2);
        CommandByTurns x = nobodys();
        Check.bothSick(x, 9);
        Check.due("all but the last, which is consul 1's", x.forces(10), 1);
        Check.due("the last one", x.row(0), 1 << 9);
        CommandByTurns y = Check.on(PLAIN);
        y.set(0, 0, 0);
        Check.due("not even all of nine", y.forces(9), -2);
        Check.due(y, "all of ten", y.forces(10), 5, 0b1010101010);
    }

    private static CommandByTurns nobodys() {
        CommandByTurns x = new CommandByTurns();
        Check.bothSick(x, 10);
        return x;
    }

    /** Promise 31: "The fewest", "of as few the least". */
    private static void forcesTheFewestThenTheLeast() {
        CommandByTurns x = Check.on(PLAIN);
        x.set(1, 0, 9);
        x.lend(0);
        // consuls 1 1 0 1 0: days 0 and 1 would do, day 3 alone does, days 0 or 1 alone do not
        Check.due(x, "one, though it is greater than two", x.forces(5), 1, 8);
        Check.due(x, "two of four, as day 3 is too late", x.forces(4), 2, 3);
        CommandByTurns y = Check.on(PLAIN);
        y.halt();
        y.foe(5);
        y.lend(2);
        // three days of consul 1, each of which would do alone
        Check.due(y, "of as few the least", y.forces(3), 1, 1);
        CommandByTurns z = Check.on("0~00000000");
        z.set(0, 0, 6);
        z.set(1, 0, 0);
        z.lend(0);
        z.lend(2);
        // consuls 1 1 1 1 0: days 1 and 2 by 0 2 5 4 7, days 0 and 3 by 2 1 1 4 7; not 0 and 1, not 0 and 2
        Check.due(z, "the least as bits, not by the first day", z.forces(5), 2, 6);
    }

    /** Promise 32: "n 1 .. 30", "NONE: another n". */
    private static void offersByNumber() {
        Check.range("offers(n)", 1, 30, n -> new CommandByTurns().offers(n));
        for (int n : new int[] {MIN, -1, 0, 31, MAX}) {
            Twin.refused("offers(" + n + ")", x -> x.offers(n));
        }
    }

    /** Promise 32: "it, of equal ones the first; the ROW: 501 and ISSUE". */
    private static void offersTells() {
        CommandByTurns x = new CommandByTurns();
        Check.due(x, "today alone", x.offers(1), 0, 531);
        Check.due(x, "tomorrow", x.offers(2), 1, 513);
        Check.due(x, "of equal ones the first", x.offers(30), 1, 513);
        Check.rule(x, "7");
        Check.due(x, "all are equal", x.offers(30), 0, 508);
        x.sick(1, 29);
        Check.rule(x, "b");
        Check.due(x, "the last but one", x.offers(29), 0, 510);
        Check.due(x, "the last of thirty", x.offers(30), 29, 504);
        Check.rule(x, "9-d");
        Check.due(x, "nine days", x.offers(9), 8, 502);
        Check.due(x, "ten days", x.offers(10), 9, 501);
        Check.due(x, "thirty days", x.offers(30), 9, 501);
        Check.rule(x, "-501");
        Check.due(x, "the least", x.offers(3), 0, 1);
        Check.rule(x, "501");
        Check.due(x, "the most", x.offers(3), 0, 1001);
    }

    /** Promise 32: "-2: all are nobody's". */
    private static void offersOnNobodysDays() {
        Twin.refused("all of thirty", () -> sickFor(30), x -> x.offers(30), -2);
        Twin.refused("one of one", () -> sickFor(1), x -> x.offers(1), -2);
        CommandByTurns x = sickFor(29);
        Check.due("all of 29", x.offers(29), -2);
        Check.due("all but the last", x.offers(30), 29);
        CommandByTurns y = sickFor(1);
        Check.due("all but tomorrow", y.offers(2), 1);
    }

    private static CommandByTurns sickFor(int n) {
        CommandByTurns x = Twin.busy();
        Check.bothSick(x, n);
        return x;
    }

    /** Promise 32: "wherever the foe is, as if he came next to it .., HEIGHT as of his FIELD, no RIVER between". */
    private static void offersAsIfHeCameNextToIt() {
        CommandByTurns x = Check.on("2~50007");
        Check.rule(x, "h*10+w");
        int[] dues = {0, -30, 20, 20, 20, -50};
        for (int f = 0; f < 6; f++) {
            x.foe(f);
            Check.due(x, "the foe in " + f, x.offers(1), 0, 501 + dues[f]);
        }
        Check.rule(x, "f+m-e");
        x.send(1, 30);
        Check.due(x, "men and food as now", x.offers(30), 0, 501 + 50 + 3);
        CommandByTurns y = new CommandByTurns();
        Check.rule(y, "-500");
        y.fight();
        y.fight();
        Check.due(y, "without men, too", y.offers(1), 0, 1);
    }
}
