/** Promises 11 to 20: each sentence at its boundaries. */
public final class DaysEdgesTest {
    private static final int MIN = Integer.MIN_VALUE;
    private static final int MAX = Integer.MAX_VALUE;

    public static void main(String[] args) {
        whose();
        marchesByNumber();
        marchesToTheEnds();
        marchesPastTheFoe();
        marchesAskedInOrder();
        marchesTell();
        halts();
        battlesTell();
        battlesAskedInOrder();
        theFoeGoes();
        provisions();
        provisionsUpTo9999();
        daysLent();
        daysLentTwice();
        sickDays();
        sickInsteadOfWhatWasTold();
        warsOfOneAct();
        warsThatCantBeRead();
        warsOfSixtySigns();
        warsThatStop();
        warsOfNothing();
        eachCanBeUndone();
        refusedOnesCantBeUndone();
        othersCantBeUndone();
        twelveAreKept();
        warsAreUndoneAsOne();
        whatForgetsThem();
        Check.finish();
    }

    /** Promise 11: "WHOSE day it is; NONE: nobody's." */
    private static void whose() {
        CommandByTurns x = new CommandByTurns();
        Check.due("consul 0's", x.whose(), 0);
        x.sick(0, 1);
        Check.due("consul 1's", x.whose(), 1);
        x.sick(1, 1);
        Check.due("nobody's", x.whose(), -1);
        x.halt();
        Check.due("consul 1's again", x.whose(), 1);
    }

    /** Promise 12: "by v FIELDS (-12 .. 12; not 0)", "NONE: another v". */
    private static void marchesByNumber() {
        for (int v : new int[] {MIN, -14, -13, 0, 13, 14, MAX}) {
            Twin.refused("march(" + v + ")", x -> x.march(v));
            Twin.refused("march(" + v + ") on nobody's day", DaysEdgesTest::nobodys, x -> x.march(v), -1);
        }
        for (int v : new int[] {-12, -11, 11, 12}) {
            Twin.refused("march(" + v + ")", Twin::busy, x -> x.march(v), -3);
        }
        CommandByTurns x = Check.on("000");
        Check.due("march(1)", x.march(1), 1);
        Check.due("march(-1)", x.march(-1), 0);
    }

    private static CommandByTurns nobodys() {
        CommandByTurns x = Twin.busy();
        Check.bothSick(x, 2);
        return x;
    }

    /** Promise 12: "-3: no such FIELD". */
    private static void marchesToTheEnds() {
        CommandByTurns x = Check.on("0000");
        x.foe(0);
        Check.due("one below 0", x.march(-1), -3);
        Check.due("one behind the last", x.march(4), -3);
        Check.due("to the last", x.march(3), 3);
        Check.due("behind the last", x.march(1), -3);
        x.set(1, 0, 9);
        Check.due("one below 0 from the last", x.march(-4), -3);
        Check.due("to field 0 from the last", x.march(-3), 0);
        Check.due("two days", x.count(1), 2);
    }

    /** Promise 12: "-5: past the foe's FIELD (to it, or away from it, it can go)". */
    private static void marchesPastTheFoe() {
        CommandByTurns x = Check.on("0000000");
        x.set(1, 0, 9);
        x.march(2);
        x.foe(4);
        Check.due("past the foe upwards", x.march(3), -5);
        Check.due("away from the foe", x.march(-1), 1);
        Check.due("to the foe upwards", x.march(3), 4);
        Check.due("on from his field", x.march(2), 6);
        Check.due("past the foe downwards", x.march(-3), -5);
        Check.due("next to the foe downwards", x.march(-1), 5);
        Check.due("past the foe from next to him", x.march(-2), -5);
        Check.due("to the foe downwards", x.march(-1), 4);
        Check.due("away downwards from his field", x.march(-2), 2);
        x.foe(2);
        Check.due("a foe who came into the army's field", x.march(-1), 1);
    }

    /** Promise 12: "-2: nobody's day; -3: no such FIELD; -4: farther than REACH; -5: past .. (asked in this order)". */
    private static void marchesAskedInOrder() {
        Twin.refused("nobody's day, no such field", DaysEdgesTest::nobodys, x -> x.march(2), -2);
        Twin.refused("nobody's day, too far", DaysEdgesTest::nobodys, x -> x.march(-4), -2);
        Twin.refused("nobody's day", DaysEdgesTest::nobodys, x -> x.march(-1), -2);
        Twin.refused("no such field, too far, past the foe", DaysEdgesTest::foeBeside, x -> x.march(6), -3);
        Twin.refused("no such field, too far", DaysEdgesTest::foeBeside, x -> x.march(-2), -3);
        Twin.refused("too far, past the foe", DaysEdgesTest::foeBeside, x -> x.march(4), -4);
        Twin.refused("past the foe", DaysEdgesTest::foeBeside, x -> x.march(2), -5);
    }

    /** The army in field 1 of six, the foe in field 2; reach 4. */
    private static CommandByTurns foeBeside() {
        CommandByTurns x = Check.on("0000~00");
        x.march(1);
        x.halt();
        x.foe(2);
        return x;
    }

    /** Promise 12: "FIELD then; the ROW: who commanded, FOOD behind the NIGHT". */
    private static void marchesTell() {
        CommandByTurns x = Check.on("000");
        Check.due(x, "by consul 0", x.march(2), 2, 0, 490);
        Check.due(x, "by consul 1", x.march(-2), 0, 1, 480);
        Check.due("a night each", x.count(1), 2);
        Check.halts(x, 48);
        Check.due(x, "without food", x.march(1), 1, 0, 0);
        Check.due("a tenth of the men", x.count(4), 810);
    }

    /** Promise 13: "FOOD behind the NIGHT; the ROW: who commanded (NONE)". */
    private static void halts() {
        CommandByTurns x = new CommandByTurns();
        Check.due(x, "by consul 0", x.halt(), 490, 0);
        Check.due(x, "by consul 1", x.halt(), 480, 1);
        Check.bothSick(x, 1);
        Check.due(x, "nobody's day", x.halt(), 470, -1);
        Check.due("the day goes on", x.count(1), 3);
        Check.halts(x, 46);
        Check.due(x, "the last food", x.halt(), 0, 1);
        Check.due("all men", x.count(4), 900);
        Check.due(x, "no food", x.halt(), 0, 0);
        Check.due("a tenth less", x.count(4), 810);
        Check.due("where it was", x.count(2), 0);
    }

    /** Promise 14: "501 and ISSUE; the ROW: MEN, the foe's MEN behind it (ahead of the NIGHT)". */
    private static void battlesTell() {
        int[] issues = {-500, -499, -1, 0, 1, 499, 500};
        for (int issue : issues) {
            CommandByTurns x = new CommandByTurns();
            Check.rule(x, Integer.toString(issue));
            Check.due("fight() by " + issue, x.fight(), 501 + issue);
            Check.due("a night behind it", x.count(1), 1);
        }
        CommandByTurns y = new CommandByTurns();
        Check.halts(y, 50);
        Check.rule(y, "-100");
        Check.due(y, "without food", y.fight(), 401, 800, 867);
        Check.due("the night takes a tenth", y.count(4), 720);
        Check.due("not of the foe's", y.count(5), 867);
        CommandByTurns z = new CommandByTurns();
        Check.rule(z, "b");
        z.fight();
        Check.due("by who commands", z.fight(), 504);
    }

    /** Promise 14: "-2: nobody's day; -3: not NEAR; -4: one of them has no MEN (asked in this order)". */
    private static void battlesAskedInOrder() {
        Twin.refused("nobody's day, not near, no men", () -> beaten("-500", 2, true), x -> x.fight(), -2);
        Twin.refused("nobody's day, near", () -> beaten("-500", 1, true), x -> x.fight(), -2);
        Twin.refused("not near, no men", () -> beaten("-500", 2, false), x -> x.fight(), -3);
        Twin.refused("near, no men", () -> beaten("-500", 1, false), x -> x.fight(), -4);
        Twin.refused("near, no men of the foe", () -> beaten("500", 1, false), x -> x.fight(), -4);
        Twin.refused("in his field, no men of the foe", () -> beaten("500", 0, false), x -> x.fight(), -4);
        CommandByTurns x = beaten("-500", 1, false);
        Check.due("one man", x.send(1, 1), 1);
        Check.due("fights", x.fight(), 1);
        CommandByTurns y = beaten("500", 1, false);
        Check.due("one man of the foe", y.send(2, 1), 1);
        Check.due("fights", y.fight(), 1001);
    }

    /** One side has no men; the foe is in a field then, the army in field 0. */
    private static CommandByTurns beaten(String rule, int foeAt, boolean isNobodys) {
        CommandByTurns x = Check.on("0000");
        x.foe(1);
        Check.rule(x, rule);
        x.fight();
        x.fight();
        x.foe(foeAt);
        if (isNobodys) {
            Check.bothSick(x, 1);
        }
        return x;
    }

    /** Promise 15: "The foe goes to a FIELD: where he was. Refused: none such. (No NIGHT.)" */
    private static void theFoeGoes() {
        CommandByTurns x = Check.on("0000");
        Check.due("to the first", x.foe(0), 3);
        Check.due("to the last", x.foe(3), 0);
        Check.due("to the one next to the last", x.foe(2), 3);
        Check.due("to where he is", x.foe(2), 2);
        Check.due("where he is", x.count(3), 2);
        Check.due("no night", x.count(1), 0);
        Check.due("no food is eaten", x.count(6), 500);
        Check.due("each can be undone", x.count(10), 4);
        for (int f : new int[] {MIN, -1, 6, 7, 12, MAX}) {
            Twin.refused("foe(" + f + ")", y -> y.foe(f));
        }
        CommandByTurns z = Check.on("000000000000");
        Check.due("the last of twelve", z.foe(11), 11);
        Check.due("behind the last of twelve", z.foe(12), -1);
    }

    /** Promise 16: "FOOD (what 0), MEN (1), the foe's MEN (2) n (1 .. 999) more". */
    private static void provisions() {
        int[] first = {500, 900, 900};
        int[] counts = {6, 4, 5};
        for (int what = 0; what < 3; what++) {
            CommandByTurns x = new CommandByTurns();
            Check.due("one more", x.send(what, 1), first[what] + 1);
            Check.due("two more", x.send(what, 2), first[what] + 3);
            Check.due("998 more", x.send(what, 998), first[what] + 1001);
            Check.due("999 more", x.send(what, 999), first[what] + 2000);
            Check.due("told by count()", x.count(counts[what]), first[what] + 2000);
            for (int other = 0; other < 3; other++) {
                Check.due("the others stay", x.count(counts[other]), first[other] + (other == what ? 2000 : 0));
            }
            Check.due("no night", x.count(1), 0);
            for (int n : new int[] {MIN, -1, 0, 1000, 1001, MAX}) {
                int asked = what;
                Twin.refused("send(" + what + ", " + n + ")", y -> y.send(asked, n));
            }
        }
        for (int what : new int[] {MIN, -1, 3, 4, MAX}) {
            Twin.refused("send(" + what + ", 5)", y -> y.send(what, 5));
        }
    }

    /** Promise 16: "(9999 at most)". */
    private static void provisionsUpTo9999() {
        int[] first = {500, 900, 900};
        for (int what = 0; what < 3; what++) {
            CommandByTurns x = new CommandByTurns();
            int has = first[what];
            while (has + 999 < 9998) {
                has = x.send(what, 999);
            }
            Check.due("9998", x.send(what, 9998 - has), 9998);
            Check.due("9998 and 1", x.send(what, 1), 9999);
            x.undo();
            Check.due("9998 and 2", x.send(what, 2), 9999);
            x.undo();
            Check.due("9998 and 999", x.send(what, 999), 9999);
            int undone = x.count(10);
            Check.due("9999 and 1", x.send(what, 1), 9999);
            Check.due("is done", x.count(10), Math.min(12, undone + 1));
        }
    }

    /** Promise 17: "A DAY (DAY .. 99) is LENT ..: how many of DAYS from now on are LENT then. Refused: others." */
    private static void daysLent() {
        CommandByTurns x = new CommandByTurns();
        Check.halts(x, 3);
        Check.due("today", x.lend(3), 1);
        Check.due("tomorrow", x.lend(4), 2);
        Check.due("day 98", x.lend(98), 3);
        Check.due("day 99", x.lend(99), 4);
        Check.due("day 63", x.lend(63), 5);
        Check.due("day 64", x.lend(64), 6);
        Check.due("day 32", x.lend(32), 7);
        Check.due("from now on", x.count(7), 7);
        for (int day : new int[] {MIN, -1, 0, 1, 2, 100, 101, MAX}) {
            Check.due("lend(" + day + ")", x.lend(day), -1);
        }
        Check.due("refused ones can't be undone", x.count(10), 10);
        x.halt();
        Check.due("day 3 is past", x.count(7), 6);
        Check.due("a past one is refused", x.lend(3), -1);
        Twin.refused("yesterday", y -> y.lend(1));
        Twin.refused("day 100", y -> y.lend(100));
        Twin.refused("day -1", y -> y.lend(-1));
        CommandByTurns z = new CommandByTurns();
        Check.halts(z, 99);
        Check.due("day 99 today", z.lend(99), 1);
        z.halt();
        Check.due("day 100 today", z.lend(100), -1);
        Check.due("none from now on", z.count(7), 0);
    }

    /** Promise 17: "or not any more, if it was". */
    private static void daysLentTwice() {
        for (int day : new int[] {0, 1, 31, 32, 63, 64, 98, 99}) {
            CommandByTurns x = new CommandByTurns();
            Check.due("lent", x.lend(day), 1);
            Check.due("not any more", x.lend(day), 0);
            Check.due("once more", x.lend(day), 1);
            Check.due("each can be undone", x.count(10), 3);
            Check.halts(x, day);
            Check.due("that day is the other one's", x.whose(), 1 - day % 2);
            Check.due("from now on", x.count(7), 1);
            x.halt();
            Check.due("the day behind is not", x.whose(), 1 - day % 2);
            Check.due("none from now on", x.count(7), 0);
        }
    }

    /** Promise 18: "A consul is sick n DAYS (1 .. 30), from today on ..: the last one. Refused: others." */
    private static void sickDays() {
        for (int c = 0; c < 2; c++) {
            int asked = c;
            for (int n : new int[] {1, 2, 29, 30}) {
                CommandByTurns x = new CommandByTurns();
                Check.halts(x, 5);
                Check.due("sick(" + c + ", " + n + ")", x.sick(c, n), 5 + n - 1);
                Check.due("the days of it", x.comes(1 - c, n), (int) ((1L << n) - 1));
                // from day 5 on, odd days are those in 0, 2, .. days
                int own = (c == 1 ? 0x15555555 : 0x2AAAAAAA) >>> n << n;
                Check.due("no day more", x.comes(c, 30), own);
            }
            for (int n : new int[] {MIN, -1, 0, 31, 32, MAX}) {
                Twin.refused("sick(" + c + ", " + n + ")", x -> x.sick(asked, n));
            }
        }
        for (int c : new int[] {MIN, -1, 2, 3, MAX}) {
            Twin.refused("sick(" + c + ", 5)", x -> x.sick(c, 5));
        }
    }

    /** Promise 18: "(instead of what was told of it)". */
    private static void sickInsteadOfWhatWasTold() {
        CommandByTurns x = new CommandByTurns();
        Check.due("long", x.sick(0, 30), 29);
        Check.due("the other one", x.sick(1, 10), 9);
        Check.due("short", x.sick(0, 1), 0);
        Check.due("short alone", x.consul(0, 3), 0);
        Check.due("the other one's stays", x.consul(1, 3), 9);
        x.halt();
        Check.due("well", x.whose(), 0);
        Check.due("long again", x.sick(0, 5), 5);
        x.undo();
        Check.due("as it was told ahead", x.consul(0, 3), 0);
    }

    /** Promise 19: "> or < and a digit 1 .. 9 .. h .. x .. f, a digit or a, b .. l". */
    private static void warsOfOneAct() {
        CommandByTurns x = Check.on("000000000000");
        x.foe(0);
        Check.due(x, ">1", Check.war(x, ">1"), 1, 0, 1);
        Check.due("the army", x.count(2), 1);
        Check.due(x, "<1", Check.war(x, "<1"), 1, 0, 2);
        Check.due("the army", x.count(2), 0);
        Check.due(x, ">4", Check.war(x, ">4"), 1, 0, 3);
        Check.due(x, ">9 is too far", Check.war(x, ">9"), 0, 1, 3);
        Check.due(x, "<9 is out of the ground", Check.war(x, "<9"), 0, 1, 3);
        Check.due(x, "h", Check.war(x, "h"), 1, 0, 4);
        String fields = "0123456789ab";
        for (int f = 0; f < 12; f++) {
            Check.due(x, "f" + fields.charAt(f), Check.war(x, "f" + fields.charAt(f)), 1, 0, 4);
            Check.due("the foe", x.count(3), f);
        }
        Check.due(x, "l", Check.war(x, "l"), 1, 0, 4);
        Check.due("today is lent", x.whose(), 1);
        Check.due(x, "x, not near", Check.war(x, "x"), 0, 1, 4);
        x.foe(3);
        Check.due(x, "x", Check.war(x, "x"), 1, 0, 5);
        Check.due("men", x.count(4), 900 - 12 / 3);
    }

    /** Promise 19: "-1 - p: the sign at p can't stand there (its end, if it ends too early ..); nothing is done then". */
    private static void warsThatCantBeRead() {
        Object[][] wars = {{">", -2}, {"<", -2}, {"f", -2}, {"h>", -3}, {"h<", -3}, {"hf", -3}, {">0", -2}, {"<0", -2},
            {">:", -2}, {"</", -2}, {">a", -2}, {"<b", -2}, {">h", -2}, {">>1", -2}, {"fc", -2}, {"f`", -2}, {"f:", -2},
            {"f/", -2}, {"fA", -2}, {"fh", -2}, {"ff1", -2}, {"1", -1}, {"a", -1}, {"b", -1}, {"H", -1}, {"g", -1}, {"i", -1},
            {"k", -1}, {"m", -1}, {"w", -1}, {"y", -1}, {"=1", -1}, {"h h", -2}, {"h,h", -2}, {">11", -3}, {"f11", -3},
            {"h1", -2}, {"hhhy", -4}, {"h>1h<", -6}, {"\u0000", -1}, {"h\u00ff", -2}};
        for (Object[] w : wars) {
            String text = (String) w[0];
            Twin.unread("war() of " + text, text, x -> x.war(), (int) w[1]);
        }
    }

    /** Promise 19: "60, if it has more and the first 60 could go on or end". */
    private static void warsOfSixtySigns() {
        String h = "h".repeat(58);
        Object[][] wars = {{h + "h", 59, 59}, {h + "hh", 60, 60}, {h + "l", 59, 58}, {h + "f1", 59, 58}, {h + "h>", -61, 0},
            {h + "hhh", -61, 0}, {h + "hhy", -61, 0}, {h + "h>1", -61, 0}, {h + "h>0", -61, 0}, {h + "f1h", -61, 0},
            {h + "hy", -60, 0}, {h + "hyh", -60, 0}, {h + "y", -59, 0}, {h + "fy", -60, 0}, {h + "fyh", -60, 0},
            {h + ">", -60, 0}, {h + "hh".repeat(11), -61, 0}, {"y" + h + "hh", -1, 0}};
        for (Object[] w : wars) {
            CommandByTurns x = new CommandByTurns();
            Check.due("war() of " + w[0], Check.war(x, (String) w[0]), (int) w[1]);
            Check.due("the day then", x.count(1), (int) w[2]);
            Check.due("the text is empty", x.count(12), 0);
            Check.due("numbers of the row", x.count(11), (int) w[1] < 0 ? 0 : 2);
            Check.due("what can be undone", x.count(10), (int) w[1] < 0 ? 0 : 1);
        }
        Twin.unread("war() of 61", "h".repeat(61), x -> x.war(), -61);
    }

    /** Promise 19: "done one by one, till one can't be ..: how many were done; the ROW: 1 if one could not be, else 0; DAY". */
    private static void warsThatStop() {
        Object[][] wars = {{">1h", 2, 0, 2}, {"h>9h", 1, 1, 1}, {"hh>9", 2, 1, 2}, {">9hh", 0, 1, 0}, {"x", 0, 1, 0},
            {"f5", 0, 1, 0}, {"f4x", 1, 1, 0}, {"f1xx", 3, 0, 2}, {"llll", 4, 0, 0}, {"lh<1", 2, 1, 1}, {"f1>2h", 1, 1, 0},
            {"f2>2>1h", 4, 0, 3}};
        for (Object[] w : wars) {
            CommandByTurns x = Check.on("00000");
            Check.due(x, "war() of " + w[0], Check.war(x, (String) w[0]), (int) w[1], (int) w[2], (int) w[3]);
            Check.due("the day", x.count(1), (int) w[3]);
            Check.due("to be undone", x.count(10), (int) w[1] > 0 ? 1 : 0);
        }
        CommandByTurns y = new CommandByTurns();
        Check.halts(y, 99);
        Check.due(y, "day 99 can be lent, day 100 can't", Check.war(y, "lhl"), 2, 1, 100);
        Check.due("undone as one", y.undo(), 11);
        Check.bothSick(y, 2);
        Check.due(y, "nobody's day: it can stay alone", Check.war(y, "h>1"), 1, 1, 100);
        y.undo();
        Check.due(y, "nobody's day: no battle", Check.war(y, "x"), 0, 1, 99);
        CommandByTurns z = new CommandByTurns();
        Check.rule(z, "-500");
        Check.due(z, "no battle without men", Check.war(z, "xxx"), 2, 1, 2);
    }

    /** Promise 19: "(an empty one: nothing)". */
    private static void warsOfNothing() {
        CommandByTurns x = new CommandByTurns();
        Check.due(x, "no act", Check.war(x, ""), 0, 0, 0);
        Check.halts(x, 7);
        Check.due(x, "no act on day 7", Check.war(x, ""), 0, 0, 7);
        Check.due("it can't be undone", x.count(10), 7);
        Check.due("nothing is done", x.count(1), 7);
    }

    private static int done(CommandByTurns x, int kind) {
        switch (kind) {
            case 0:
                return x.march(1);
            case 1:
                return x.halt();
            case 2:
                return x.fight();
            case 3:
                return x.foe(1);
            case 4:
                return x.send(0, 7);
            case 5:
                return x.send(1, 7);
            case 6:
                return x.send(2, 7);
            case 7:
                return x.lend(1);
            case 8:
                return x.lend(80);
            case 9:
                return x.sick(0, 4);
            case 10:
                return x.sick(1, 4);
            default:
                return Check.war(x, "lhf1>1x");
        }
    }

    /** Promise 20: "The latest .. is undone (DAY, FIELDS, MEN, FOOD, LENT DAYS, sickness are as ahead of it)". */
    private static void eachCanBeUndone() {
        for (int kind = 0; kind <= 11; kind++) {
            CommandByTurns x = Check.on("0000");
            x.halt();
            x.sick(1, 2);
            x.lend(1);
            x.foe(0);
            Check.due("call " + kind + " is done", done(x, kind) >= 0, true);
            Check.due("call " + kind + " can be undone", x.count(10), 5);
            Check.due("undo() of call " + kind, x.undo(), 4);
            int[] counts = {4, 1, 0, 0, 900, 900, 490, 1, 1};
            for (int what = 0; what < counts.length; what++) {
                Check.due("count(" + what + ") behind undo() of call " + kind, x.count(what), counts[what]);
            }
            Check.due("consul 0's sickness", x.consul(0, 3), -1);
            Check.due("consul 1's sickness", x.consul(1, 3), 2);
            Check.due("whose days come", x.comes(0, 30), 0x2AAAAAAB);
        }
    }

    /** Promise 20: "such as were done"; "Refused: none." */
    private static void refusedOnesCantBeUndone() {
        CommandByTurns x = Check.on("0000");
        Check.due("none", x.undo(), -1);
        x.march(0);
        x.march(-1);
        x.fight();
        x.foe(4);
        x.send(0, 0);
        x.send(3, 1);
        x.lend(100);
        x.sick(0, 31);
        x.sick(2, 1);
        Check.war(x, "");
        Check.war(x, ">9h");
        Check.war(x, "hy");
        Check.due("refused ones", x.count(10), 0);
        Check.due("none", x.undo(), -1);
        x.halt();
        Check.due("one", x.undo(), 0);
        Check.due("none is left", x.undo(), -1);
        Twin.refused("undo() of none", () -> Check.on("0~123"), y -> y.undo(), -1);
    }

    private static void othersCantBeUndone() {
        CommandByTurns x = Check.on("0000");
        x.halt();
        Check.wishes(x, 0, "45");
        Check.rule(x, "b");
        x.set(0, 0, 4);
        x.sheet(2, 4, 3, 1);
        x.seen(1, 2);
        x.forget();
        x.keep(0);
        x.evening();
        x.years(4, 5);
        Check.due("the halt alone", x.count(10), 1);
        Check.due("is undone", x.undo(), 0);
        Check.due("bold stays", x.consul(0, 0), 4);
        Check.due("heights stay", x.field(1, 0), 4);
        Check.due("the rule stays", x.issue(3, 0), 505);
        Check.due("what is kept stays", x.again(0), true);
        Check.due("kept on day 1", x.count(1), 1);
        Check.due("wishes stay", x.consul(0, 4), 4);
    }

    /** Promise 20: "of 12 that are kept, the latest ones"; "how many are left that can be". */
    private static void twelveAreKept() {
        for (int many : new int[] {11, 12, 13, 14, 24, 25, 40}) {
            CommandByTurns x = new CommandByTurns();
            Check.halts(x, many);
            int can = Math.min(12, many);
            Check.due("of " + many, x.count(10), can);
            for (int left = can - 1; left >= 0; left--) {
                Check.due("left", x.undo(), left);
                Check.due("the day", x.count(1), many - can + left);
            }
            Check.due("no more", x.undo(), -1);
            Check.due("the day stays", x.count(1), many - can);
        }
        CommandByTurns y = new CommandByTurns();
        Check.halts(y, 13);
        y.undo();
        y.undo();
        y.send(0, 5);
        Check.halts(y, 2);
        Check.due("undone and done again", y.count(10), 12);
        y.halt();
        Check.due("twelve at most", y.count(10), 12);
        int[] days = {13, 12, 11, 11, 10, 9, 8, 7, 6, 5, 4, 3};
        for (int i = 0; i < days.length; i++) {
            y.undo();
            Check.due("the day", y.count(1), days[i]);
        }
        Check.due("no more", y.undo(), -1);
    }

    /** Promise 20: "war() of which one ACT was done, as one". */
    private static void warsAreUndoneAsOne() {
        CommandByTurns x = Check.on("0000");
        x.halt();
        Check.war(x, "lhf1xlh");
        Check.due("day", x.count(1), 4);
        Check.due("to be undone", x.count(10), 2);
        Check.due("as one", x.undo(), 1);
        Check.due("day then", x.count(1), 1);
        Check.due("the foe", x.count(3), 3);
        Check.due("lent days", x.count(7), 0);
        Check.due("men", x.count(4), 900);
        Check.war(x, "h>9");
        Check.due("of which one was done", x.count(10), 2);
        Check.war(x, ">9h");
        Check.due("of which none was done", x.count(10), 2);
        x.undo();
        Check.due("ahead of the one", x.count(1), 1);
    }

    /** Promise 20: "(ground() and again() forget them, if they are not refused.)" */
    private static void whatForgetsThem() {
        CommandByTurns x = Check.on("0000");
        Check.halts(x, 3);
        Check.ground(x, "0");
        Check.due("a refused ground()", x.count(10), 3);
        x.again(0);
        x.again(2);
        x.again(-1);
        Check.due("a refused again()", x.count(10), 3);
        x.keep(1);
        Check.due("keep()", x.count(10), 3);
        x.again(0);
        Check.due("a refused again()", x.count(10), 3);
        Check.due("undone", x.undo(), 2);
        x.again(1);
        Check.due("again()", x.count(10), 0);
        Check.due("none", x.undo(), -1);
        Check.due("as it was kept", x.count(1), 3);
        x.halt();
        Check.due("one", x.count(10), 1);
        Check.ground(x, "0000");
        Check.due("ground()", x.count(10), 0);
        Check.due("none", x.undo(), -1);
        Check.due("the day goes on", x.count(1), 4);
    }
}
