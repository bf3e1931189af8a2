/** Promises 11 to 20: whose day it is, marches, halts, battles, the foe, provisions, lent days, sickness, wars, undone. */
public final class DaysTest {
    public static void main(String[] args) {
        whoseDay();
        marches();
        wrongMarches();
        nights();
        battles();
        wrongBattles();
        foeAndProvisions();
        lentDays();
        sickDays();
        wars();
        wrongWars();
        undone();
        Check.finish();
    }

    private static void whoseDay() {
        CommandByTurns x = new CommandByTurns();
        int[] whose = {0, 1, 0, 0, 1, 1, -1, 1};
        x.lend(3);
        x.lend(4);
        for (int day = 0; day < whose.length; day++) {
            if (day == 6) {
                x.sick(0, 2);
                x.sick(1, 1);
            }
            Check.due("whose() on day " + day, x.whose(), whose[day]);
            x.halt();
        }
        CommandByTurns y = new CommandByTurns();
        y.lend(0);
        y.sick(1, 1);
        Check.due("a lent day of a sick one goes back", y.whose(), 0);
        y.sick(0, 1);
        Check.due("both sick: nobody's", y.whose(), -1);
    }

    private static void marches() {
        CommandByTurns x = Check.on("0~5312~4");
        Check.due(x, "march(3)", x.march(3), 3, 0, 490);
        Check.due("day", x.count(1), 1);
        Check.due(x, "march(1)", x.march(1), 4, 1, 480);
        Check.due(x, "march(-3)", x.march(-3), 1, 0, 470);
        Check.due(x, "march(-1) by consul 1 over the river", x.march(-1), 0, 1, 460);
        CommandByTurns y = Check.on("00000");
        y.foe(2);
        Check.due("to the foe's field", y.march(2), 2);
        Check.due("past it from it", y.march(2), 4);
        Check.due("past it from behind", y.march(-3), -5);
        Check.due("to it from behind", y.march(-2), 2);
    }

    private static void wrongMarches() {
        CommandByTurns x = Check.on("0~5312~4");
        x.halt();
        int[][] wrong = {{0, -1}, {13, -1}, {-13, -1}, {Integer.MIN_VALUE, -1}, {Integer.MAX_VALUE, -1}, {12, -3},
            {6, -3}, {-1, -3}, {-12, -3}, {2, -4}, {5, -4}};
        for (int[] w : wrong) {
            Check.due("march(" + w[0] + ")", x.march(w[0]), w[1]);
            Check.rowIs(x, "the refused march", 0);
        }
        Check.due("the day is as it was", x.count(1), 1);
        Check.due("only the halt can be undone", x.count(10), 1);
        x.foe(0);
        Check.due("from the foe's field away", x.march(1), 1);
        x.foe(2);
        Check.due("past the foe and too far: too far", x.march(4), -4);
        Check.due("past the foe", x.march(3), -5);
        x.sick(0, 1);
        x.sick(1, 1);
        Check.due("nobody's day first", x.march(6), -2);
        Check.due("but for the number", x.march(0), -1);
    }

    private static void nights() {
        CommandByTurns x = new CommandByTurns();
        Check.due(x, "halt()", x.halt(), 490, 0);
        Check.due(x, "halt()", x.halt(), 480, 1);
        x.send(1, 99);
        Check.due("999 men take 10", x.halt(), 470);
        x.send(1, 1);
        Check.due("1000 men take 11", x.halt(), 459);
        for (int i = 0; i < 41; i++) {
            x.halt();
        }
        Check.due("459 less 41 times 11", x.count(6), 8);
        Check.due("it has not so much: 0", x.halt(), 0);
        Check.due("a tenth less", x.count(4), 900);
        x.send(1, 9);
        Check.due("no food", x.halt(), 0);
        Check.due("909 less 90", x.count(4), 819);
        CommandByTurns y = new CommandByTurns();
        Check.rule(y, "-500");
        y.fight();
        y.fight();
        Check.due("no men are left", y.count(4), 0);
        Check.due("none take 1", y.halt(), 493);
        y.sick(0, 9);
        y.sick(1, 9);
        Check.due(y, "halt on nobody's day", y.halt(), 492, -1);
    }

    private static void battles() {
        // (9 + 1) * 3 + (2 - 4) * 4 + (90 - 90) / 2
        int due = 30 - 8;
        CommandByTurns y = Check.on("24");
        Check.due(y, "a battle won", y.fight(), 501 + due, 900 - due / 3, 900 - due);
        Check.due("the night behind it", y.count(6), 491);
        Check.due("the day behind it", y.count(1), 1);
        CommandByTurns z = Check.on("09");
        // 30 - 36, on the first day
        Check.due(z, "a battle lost", z.fight(), 501 - 6, 894, 898);
        Check.rule(z, "0");
        Check.due(z, "a battle that is neither", z.fight(), 501, 894, 898);
        Check.rule(z, "1");
        z.fight();
        Check.rowIs(z, "a battle won by one", 894, 897);
        z.undo();
        Check.rule(z, "2");
        Check.due(z, "a third is cut", z.fight(), 503, 894, 896);
        Check.rule(z, "-500");
        Check.due(z, "500 lost", z.fight(), 1, 394, 730);
        Check.due(z, "0 at least", z.fight(), 1, 0, 564);
        CommandByTurns w = new CommandByTurns();
        Check.rule(w, "500");
        w.fight();
        Check.due(w, "the foe has 0 at least", w.fight(), 1001, 568, 0);
        CommandByTurns v = new CommandByTurns();
        Check.rule(v, "2");
        v.foe(0);
        Check.due(v, "in one field", v.fight(), 503, 900, 898);
        Check.due(v, "a battle by what is left", v.fight(), 503, 900, 896);
    }

    private static void wrongBattles() {
        CommandByTurns x = Check.on("000");
        Check.due("not near", x.fight(), -3);
        x.sick(0, 1);
        x.sick(1, 1);
        Check.due("nobody's day is asked first", x.fight(), -2);
        x.undo();
        x.undo();
        x.foe(1);
        Check.rule(x, "-500");
        x.fight();
        x.fight();
        Check.due("no men", x.fight(), -4);
        x.foe(2);
        Check.due("not near is asked ahead", x.fight(), -3);
        Check.due("no night behind a refused one", x.count(1), 2);
        CommandByTurns y = new CommandByTurns();
        Check.rule(y, "500");
        y.fight();
        y.fight();
        Check.due("the foe has no men", y.fight(), -4);
    }

    private static void foeAndProvisions() {
        CommandByTurns x = Check.on("0123");
        Check.due("foe(1)", x.foe(1), 3);
        Check.due("foe(1) again", x.foe(1), 1);
        Check.due("no night", x.count(1), 0);
        Check.due("foe(4)", x.foe(4), -1);
        Check.due("foe(-1)", x.foe(-1), -1);
        Check.due("two can be undone", x.count(10), 2);
        Check.due("food", x.send(0, 1), 501);
        Check.due("men", x.send(1, 999), 1899);
        Check.due("the foe's men", x.send(2, 50), 950);
        int[][] wrong = {{0, 0}, {0, 1000}, {0, -5}, {3, 1}, {-1, 1}, {1, Integer.MIN_VALUE}};
        for (int[] w : wrong) {
            Check.due("send(" + w[0] + ", " + w[1] + ")", x.send(w[0], w[1]), -1);
        }
        Check.due("five can be undone", x.count(10), 5);
        for (int i = 0; i < 12; i++) {
            x.send(0, 999);
            x.send(1, 999);
            x.send(2, 999);
        }
        Check.due("9999 of food at most", x.count(6), 9999);
        Check.due("9999 men at most", x.count(4), 9999);
        Check.due("9999 of the foe's at most", x.count(5), 9999);
        Check.due("one more is 9999 still", x.send(1, 1), 9999);
    }

    private static void lentDays() {
        CommandByTurns x = new CommandByTurns();
        Check.due("lend(0)", x.lend(0), 1);
        Check.due("lend(63)", x.lend(63), 2);
        Check.due("lend(64)", x.lend(64), 3);
        Check.due("lend(99)", x.lend(99), 4);
        Check.due("lend(100)", x.lend(100), -1);
        Check.due("lend(-1)", x.lend(-1), -1);
        Check.due("today is the other one's", x.whose(), 1);
        x.halt();
        Check.due("lent days from now on", x.count(7), 3);
        Check.due("a day that is gone", x.lend(0), -1);
        Check.due("not any more", x.lend(64), 2);
        Check.due("lent days", x.count(7), 2);
        Check.due("undone", x.undo(), 5);
        Check.due("lent days then", x.count(7), 3);
        while (x.count(1) < 63) {
            x.halt();
        }
        Check.due("whose() on day 63", x.whose(), 0);
        x.halt();
        Check.due("whose() on day 64", x.whose(), 1);
        while (x.count(1) < 99) {
            x.halt();
        }
        Check.due("whose() on day 99", x.whose(), 0);
        Check.due("the last one", x.lend(99), 0);
        x.halt();
        Check.due("behind the last one", x.lend(100), -1);
        Check.due("none from now on", x.count(7), 0);
    }

    private static void sickDays() {
        CommandByTurns x = new CommandByTurns();
        x.halt();
        Check.due("sick(0, 30)", x.sick(0, 30), 30);
        Check.due("instead of what was told", x.sick(0, 1), 1);
        Check.due("sick(1, 2)", x.sick(1, 2), 2);
        Check.due("nobody's", x.whose(), -1);
        x.halt();
        Check.due("consul 0 is well again", x.whose(), 0);
        x.halt();
        Check.due("consul 1 is well again", x.whose(), 1);
        int[][] wrong = {{0, 0}, {0, 31}, {2, 1}, {-1, 1}, {1, -1}};
        for (int[] w : wrong) {
            Check.due("sick(" + w[0] + ", " + w[1] + ")", x.sick(w[0], w[1]), -1);
        }
        Check.due("six can be undone", x.count(10), 6);
    }

    private static void wars() {
        CommandByTurns x = Check.on("0~5312~4");
        Check.due(x, "war", Check.war(x, ">3h<1f3lx"), 6, 0, 4);
        Check.due("the army", x.count(2), 2);
        Check.due("one war can be undone", x.undo(), 0);
        Check.due("the day ahead of it", x.count(1), 0);
        Check.due("the foe ahead of it", x.count(3), 5);
        Check.due("lent days ahead of it", x.count(7), 0);
        Check.due(x, "a war that stops", Check.war(x, "h>9h"), 1, 1, 1);
        Check.due("as one", x.undo(), 0);
        Check.due(x, "a war of which nothing is done", Check.war(x, ">9hh"), 0, 1, 0);
        Check.due("can't be undone", x.undo(), -1);
        Check.due(x, "no war", Check.war(x, ""), 0, 0, 0);
        Check.due("can't be undone", x.undo(), -1);
        Check.due(x, "no such field", Check.war(x, "f5fa"), 1, 1, 0);
        Check.due(x, "a battle that can't be", Check.war(x, "lhx"), 2, 1, 1);
        Check.due("the text is empty", x.count(12), 0);
        CommandByTurns y = Check.on("000000000000");
        Check.due(y, "fields 10, 11", Check.war(y, "fafbf0"), 3, 0, 0);
        Check.due("sixty", Check.war(y, "h".repeat(60)), 60);
        Check.due(y, "on and on", Check.war(y, "h".repeat(39) + "lh"), 41, 0, 100);
        Check.due(y, "day 100 can't be lent", Check.war(y, "hl"), 1, 1, 101);
        CommandByTurns z = new CommandByTurns();
        Check.due(z, "lent twice: not any more", Check.war(z, "llh"), 3, 0, 1);
        z.halt();
        z.sick(0, 2);
        z.sick(1, 2);
        Check.due(z, "nobody's day stops a march", Check.war(z, "h>1"), 1, 1, 3);
    }

    private static void wrongWars() {
        Object[][] wrong = {{"y", -1}, {">", -2}, {">0", -2}, {">a", -2}, {"<", -2}, {"f", -2}, {"fc", -2}, {"f>", -2},
            {"h:", -2}, {"hh>", -4}, {"h".repeat(61), -61}, {"h".repeat(60) + "y", -61}, {"h".repeat(59) + ">1", -61},
            {"h".repeat(59) + ">", -61}, {"h".repeat(59) + ">0", -61}, {"h".repeat(59) + "yh", -60}, {"1", -1},
            {"h".repeat(58) + ">0hh", -60}, {"H", -1}, {"fA", -2}};
        for (Object[] w : wrong) {
            CommandByTurns x = new CommandByTurns();
            Check.due("war() of " + w[0], Check.war(x, (String) w[0]), (int) w[1]);
            Check.due("nothing is done", x.count(1), 0);
            Check.due("nothing can be undone", x.count(10), 0);
            Check.due("the text is empty", x.count(12), 0);
            Check.due("no row", x.count(11), 0);
        }
    }

    private static void undone() {
        CommandByTurns x = Check.on("0~5312~4");
        Check.due("nothing to undo", x.undo(), -1);
        x.march(3);
        x.halt();
        x.foe(4);
        x.fight();
        x.send(1, 5);
        x.lend(50);
        x.sick(0, 5);
        Check.war(x, "hh");
        Check.due("eight", x.count(10), 8);
        Check.due("war()", x.undo(), 7);
        Check.due("day", x.count(1), 3);
        Check.due("sick()", x.undo(), 6);
        Check.due("well", x.consul(0, 3), -1);
        Check.due("lend()", x.undo(), 5);
        Check.due("not lent", x.count(7), 0);
        x.undo();
        Check.due("fight()", x.undo(), 3);
        Check.due("men", x.count(4), 900);
        Check.due("the foe's men", x.count(5), 900);
        Check.due("foe()", x.undo(), 2);
        Check.due("the foe is back", x.count(3), 5);
        x.undo();
        Check.due("march()", x.undo(), 0);
        Check.due("food", x.count(6), 500);
        Check.due("the army is back", x.count(2), 0);
        for (int i = 0; i < 14; i++) {
            x.halt();
        }
        Check.due("twelve are kept", x.count(10), 12);
        for (int left = 11; left >= 0; left--) {
            Check.due("undo()", x.undo(), left);
        }
        Check.due("the thirteenth is not", x.undo(), -1);
        Check.due("so it is day 2", x.count(1), 2);
        for (int i = 0; i < 5; i++) {
            x.halt();
        }
        x.undo();
        x.halt();
        Check.due("undone and done again", x.count(10), 5);
    }
}
