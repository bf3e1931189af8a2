/** Promises 2 to 10: the text, the ground, wishes, the rule, fields, consuls, sheets. */
public final class GroundTest {
    public static void main(String[] args) {
        signsAndEnd();
        grounds();
        wrongGrounds();
        groundForgets();
        wishesTold();
        rulesRead();
        rulesWorkedOut();
        rulesByBattle();
        fieldsAndConsuls();
        setBoldAndLiked();
        sheets();
        Check.finish();
    }

    private static void signsAndEnd() {
        CommandByTurns x = new CommandByTurns();
        for (int i = 1; i <= 20; i++) {
            Check.due("sign " + i, x.sign(0x31313131), 4 * i);
        }
        Check.due("sign() beyond 80", x.sign(0), -1);
        Check.due("end(81)", x.end(81), false);
        Check.due("end(-1)", x.end(-1), false);
        Check.due("count(12) behind refused ends", x.count(12), 80);
        Check.due("end(77)", x.end(77), true);
        Check.due("sign() from 77", x.sign(0), -1);
        Check.due("end(76)", x.end(76), true);
        Check.due("sign() from 76", x.sign(0), 80);
        Check.due("end(80)", x.end(80), true);
        x.end(0);
        x.sign(0x39383736);
        x.end(2);
        x.sign(0x31000000);
        x.end(3);
        Check.due("981 is three fields", x.ground(), 3);
        Check.due("the highest byte comes first", x.field(0, 0), 9);
        Check.due("behind what end() leaves", x.field(2, 0), 1);
    }

    private static void grounds() {
        CommandByTurns x = Check.on("0~5312~4");
        Check.due("six fields", x.count(0), 6);
        int[] heights = {0, 5, 3, 1, 2, 4};
        int[] rivers = {1, 0, 0, 0, 1, 0};
        for (int f = 0; f < 6; f++) {
            Check.due("height of " + f, x.field(f, 0), heights[f]);
            Check.due("river behind " + f, x.field(f, 1), rivers[f]);
            Check.due("army in " + f, x.field(f, 2), f == 0 ? 1 : 0);
            Check.due("foe in " + f, x.field(f, 3), f == 5 ? 1 : 0);
        }
        Check.write(x, "12");
        Check.due("two fields", x.ground(), 2);
        Check.due("rivers are told anew", x.field(0, 1), 0);
        Check.write(x, "1~2~3~4~5~6~7~8~9~0~1~2");
        Check.due("twelve fields with rivers", x.ground(), 12);
        Check.due("the foe is at the last one", x.count(3), 11);
        Check.due("the text is empty then", x.count(12), 0);
    }

    private static void wrongGrounds() {
        Object[][] wrong = {{"", -1}, {"1", -2}, {"~", -1}, {"~1", -1}, {"1~", -3}, {"1~~2", -3}, {"12~", -4},
            {"1x", -2}, {"x", -1}, {"1234567890123", -13}, {"123456789012~", -14}, {"123456789012~3", -14},
            {"1~2~3~4~5~6~7~8~9~0~1~2~3", -25}, {"12 ", -3}, {"12/", -3}, {"12:", -3}, {"12\u0000", -3}, {"1\u00b2", -2}};
        for (Object[] w : wrong) {
            CommandByTurns x = Check.on("345");
            x.march(1);
            Check.write(x, (String) w[0]);
            Check.due("ground() of " + w[0], x.ground(), (int) w[1]);
            Check.due("the text is empty behind " + w[0], x.count(12), 0);
            Check.due("the ground is as it was", x.count(0), 3);
            Check.due("the army is where it was", x.count(2), 1);
            Check.due("it can be undone still", x.count(10), 1);
        }
    }

    private static void groundForgets() {
        CommandByTurns x = Check.on("345");
        x.march(1);
        x.keep(0);
        x.lend(7);
        x.sick(1, 9);
        Check.wishes(x, 0, "45");
        x.seen(3, 2);
        Check.write(x, "1234");
        Check.due("ground()", x.ground(), 4);
        Check.due("the army is at 0", x.count(2), 0);
        Check.due("the foe is at 3", x.count(3), 3);
        Check.due("nothing can be undone", x.undo(), -1);
        Check.due("nothing is kept", x.again(0), false);
        Check.due("the day goes on", x.count(1), 1);
        Check.due("food stays", x.count(6), 490);
        Check.due("lent days stay", x.count(7), 1);
        Check.due("sickness stays", x.consul(1, 3), 9);
        Check.due("wishes stay", x.consul(0, 4), 4);
        Check.due("what was seen stays", x.count(9), 8);
    }

    private static void wishesTold() {
        CommandByTurns x = new CommandByTurns();
        Check.due("wishes of consul 1", Check.wishes(x, 1, "7031"), 4);
        Check.due("today's", x.consul(1, 4), 7);
        Check.due("not the other one's", x.consul(0, 4), 0);
        int[] days = {0, 3, 1, 0, 0};
        for (int i = 0; i < days.length; i++) {
            x.halt();
            Check.due("wish for day " + (i + 1), x.consul(1, 4), days[i]);
        }
        Check.due("told anew on day 5", Check.wishes(x, 1, "89"), 2);
        Check.due("from then on", x.consul(1, 4), 8);
        x.halt();
        Check.due("the second", x.consul(1, 4), 9);
        x.undo();
        x.undo();
        Check.due("ahead of the day on which they were told", x.consul(1, 4), 0);
        Check.due("20 digits", Check.wishes(x, 0, "12345678901234567890"), 20);
        Object[][] wrong = {{"", -1}, {"x", -1}, {"1x", -2}, {"123456789012345678901", -21},
            {"12345678901234567890x", -21}, {"1234567890123456789x1", -20}, {"-1", -1}};
        for (Object[] w : wrong) {
            Check.due("wishes of " + w[0], Check.wishes(x, 0, (String) w[0]), (int) w[1]);
            Check.due("the text is empty", x.count(12), 0);
            Check.due("wishes are as they were", x.consul(0, 4), 1);
        }
        Check.due("no such consul", Check.wishes(x, 2, "x"), -100);
        Check.due("a call that reads the text empties it", x.count(12), 0);
        Check.due("no such consul, no text", Check.wishes(x, -1, ""), -100);
    }

    private static void rulesRead() {
        String forty = "1+1+1+1+1+1+1+1+1+1+1+1+1+1+1+1+1+1+1+11";
        Object[][] rules = {{"", 0}, {"b", 0}, {"999", 0}, {"0", 0}, {"b<l", 0}, {"(b<l)<h", 0}, {"((((b))))", 0},
            {"b--h", 0}, {"---b", 0}, {"b*-h", 0}, {"((1<2)=(3>4))", 0}, {"(1<2)+(3<4)", 0}, {forty, 0},
            {"-".repeat(39) + "b", 0}, {"z", -1}, {"b+", -3}, {"b<l<h", -4}, {"b<l+m=h", -6}, {"(b", -3}, {"(", -2},
            {"()", -2}, {"(((((b", -5}, {"((((b)))))", -10}, {"1000", -4}, {"bb", -2}, {"b1", -2}, {"1b", -2},
            {"(b)1", -4}, {"(b)(l)", -4}, {"b+*h", -3}, {"+b", -1}, {"*b", -1}, {"b)", -2}, {"bnb", -2}, {"b b", -2},
            {"-", -2}, {"b<", -3}, {"<b", -1}, {"B", -1}, {"b+" + (char) 255, -3}, {forty + "1", -41}, {forty + "x", -41},
            {"-".repeat(40), -41}, {"-".repeat(41), -41}, {"-".repeat(80), -41}, {"-".repeat(41) + "b", -41},
            {"-".repeat(39) + "x1", -40}, {"(" + "-".repeat(39) + "1)", -41}};
        for (Object[] r : rules) {
            CommandByTurns x = new CommandByTurns();
            Check.rule(x, "7");
            Check.due("rule() of " + r[0], Check.rule(x, (String) r[0]), (int) r[1]);
            Check.due("the text is empty", x.count(12), 0);
            if ((int) r[1] < 0) {
                Check.due("the rule is as it was", x.issue(0, 0), 508);
            }
        }
    }

    private static void rulesWorkedOut() {
        Object[][] rules = {{"1+2*3", 7}, {"(1+2)*3", 9}, {"9-3-2", 4}, {"100/10/5", 2}, {"100/10*5", 50}, {"7/2", 3},
            {"-7/2", -3}, {"7/-2", -3}, {"7/0", 0}, {"5+7/0", 5}, {"--5", 5}, {"---5", -5}, {"3--5", 8}, {"2*-3", -6},
            {"1<2", 1}, {"2<1", 0}, {"2>1", 1}, {"1=1", 1}, {"1=2", 0}, {"1+1=2", 1}, {"(1<2)+(2<3)", 2},
            {"3*(1<2)", 3}, {"-(1<2)", -1}, {"500", 500}, {"501", 500}, {"-501", -500}, {"999*999*999*999", -500},
            {"999*999*999*999/999", -500}, {"0-999*999", -500}, {"2*(3+(4*(5-(1))))", 38}, {"1-2<0", 1}, {"010", 10},
            {"-2*3+10", 4}, {"1+1+1+1+1+1+1+1+1+1+1+1+1+1+1+1+1+1+1+11", 30}, {"((((7))))-((((2))))", 5}, {"10-2*3", 4}, {"2<3-1", 0}};
        for (Object[] r : rules) {
            CommandByTurns x = new CommandByTurns();
            Check.due("rule() of " + r[0], Check.rule(x, (String) r[0]), 0);
            Check.due("the issue by " + r[0], x.issue(0, 0), 501 + (int) r[1]);
        }
        CommandByTurns x = new CommandByTurns();
        Check.rule(x, "999*999*999*999/(999*999*10+9*999+9)");
        int quotient = 999 * 999 * 999 * 999 / (999 * 999 * 10 + 9 * 999 + 9);
        Check.due("ints wrap", x.issue(0, 0), 501 + quotient);
        Check.due("a quotient that the bounds do not hide", quotient > -500 && quotient < 500, true);
    }

    private static void rulesByBattle() {
        CommandByTurns x = Check.on("3~7");
        x.set(0, 1, 8);
        x.send(1, 155);
        x.send(2, 77);
        x.send(0, 23);
        Object[][] things = {{"b", 9}, {"l", 8}, {"h", -4}, {"m", 105}, {"e", 97}, {"f", 52}, {"d", 0}, {"w", 1}};
        for (Object[] t : things) {
            Check.rule(x, (String) t[0]);
            Check.due("thing " + t[0], x.issue(0, 0), 501 + (int) t[1]);
        }
        Check.rule(x, "w");
        Check.due("no river in the foe's own field", x.issue(1, 0), 501);
        x.foe(0);
        Check.due("a river below the army", x.issue(1, 0), 502);
        x.foe(1);
        Check.rule(x, "-".repeat(39) + "b");
        Check.due("39 signs ahead of a thing", x.issue(0, 0), 501 - 9);
        Check.rule(x, "d");
        Check.due("d is the day by 10, the rest", x.issue(0, 13), 504);
        Check.rule(x, "b*10+l");
        Check.due("b and l of who commands", x.issue(0, 1), 501 + 35);
        Check.rule(x, "");
        Check.due("no rule: the first one", x.issue(0, 0), 501 + 30 - 16 + 4);
    }

    private static void fieldsAndConsuls() {
        CommandByTurns x = Check.on("0~5312~4");
        x.foe(2);
        Check.due("the foe is in 2", x.field(2, 3), 1);
        Check.due("and not in 5", x.field(5, 3), 0);
        int[][] noFields = {{-1, 0}, {6, 0}, {0, -1}, {0, 4}, {Integer.MIN_VALUE, 0}, {Integer.MAX_VALUE, 3}};
        for (int[] a : noFields) {
            Check.noSuch("field(" + a[0] + ", " + a[1] + ")", () -> x.field(a[0], a[1]));
        }
        int[][] noConsuls = {{-1, 0}, {2, 0}, {0, -1}, {1, 5}, {Integer.MIN_VALUE, 0}, {1, Integer.MAX_VALUE}};
        for (int[] a : noConsuls) {
            Check.noSuch("consul(" + a[0] + ", " + a[1] + ")", () -> x.consul(a[0], a[1]));
        }
        x.sick(0, 3);
        Check.due("sick till day 2", x.consul(0, 3), 2);
        Check.due("the other one is not", x.consul(1, 3), -1);
    }

    private static void setBoldAndLiked() {
        CommandByTurns x = new CommandByTurns();
        int[] reaches = {1, 1, 1, 2, 2, 2, 3, 3, 3, 4};
        int old = 3;
        for (int v = 0; v <= 9; v++) {
            Check.due("set(1, 0, " + v + ")", x.set(1, 0, v), old);
            Check.due("reach of bold " + v, x.consul(1, 2), reaches[v]);
            old = v;
        }
        Check.due("liked", x.set(0, 1, 2), 5);
        Check.due("liked then", x.consul(0, 1), 2);
        Check.due("bold is as it was", x.consul(0, 0), 9);
        int[][] wrong = {{2, 0, 1}, {-1, 0, 1}, {0, 2, 1}, {0, -1, 1}, {0, 0, 10}, {0, 0, -1}};
        for (int[] w : wrong) {
            Check.due("set refused", x.set(w[0], w[1], w[2]), -1);
        }
        Check.due("set() can't be undone", x.undo(), -1);
    }

    private static void sheets() {
        CommandByTurns x = Check.on("1~1111");
        sheet(x, new int[] {2, 3, 2, 3}, 15, 2, 5, 8, 0, 0);
        sheet(x, new int[] {2, 5, 4, -3}, 5, 4, 1, 0, 0, 0);
        sheet(x, new int[] {2, 5, 300, 1}, 45, 9, 9, 9, 9, 9);
        sheet(x, new int[] {0, 5, 254, 1}, 3, 0, 0, 0, 1, 2);
        sheet(x, new int[] {0, 1, 260, 0}, 4, 4, 0, 0, 0, 0);
        sheet(x, new int[] {0, 2, 127, 1}, 9, 9, 0, 0, 0, 0);
        sheet(x, new int[] {1, 2, 65541, 0}, 10, 5, 5, 0, 0, 0);
        sheet(x, new int[] {1, 2, 32767, 1}, 9, 9, 0, 0, 0, 0);
        sheet(x, new int[] {1, 1, 260, 0}, 9, 9, 0, 0, 0, 0);
        sheet(x, new int[] {2, 2, Integer.MAX_VALUE, 1}, 9, 9, 0, 0, 0, 0);
        sheet(x, new int[] {2, 12, 1, 1}, 15, 1, 2, 3, 4, 5);
        sheet(x, new int[] {0, -1, 7, 7}, -2, 1, 2, 3, 4, 5);
        sheet(x, new int[] {2, Integer.MIN_VALUE, 7, 7}, -2, 1, 2, 3, 4, 5);
        sheet(x, new int[] {2, 13, 7, 7}, -1, 1, 2, 3, 4, 5);
        sheet(x, new int[] {3, 13, 7, 7}, -1, 1, 2, 3, 4, 5);
        sheet(x, new int[] {4, -1, 7, 7}, -1, 1, 2, 3, 4, 5);
        sheet(x, new int[] {-1, 3, 7, 7}, -1, 1, 2, 3, 4, 5);
        sheet(x, new int[] {3, -1, 7, 7}, -3, 0, 0, 0, 0, 0);
        sheet(x, new int[] {2, 5, 1, 1}, 15, 1, 2, 3, 4, 5);
        sheet(x, new int[] {2, 0, 7, 7}, 0, 0, 0, 0, 0, 0);
        Check.due("rivers stay", x.field(0, 1), 1);
        Check.due("sheet() can't be undone", x.undo(), -1);
    }

    private static void sheet(CommandByTurns x, int[] a, int answer, int... heights) {
        String call = "sheet(" + a[0] + ", " + a[1] + ", " + a[2] + ", " + a[3] + ")";
        Check.due(call, x.sheet(a[0], a[1], a[2], a[3]), answer);
        for (int f = 0; f < heights.length; f++) {
            Check.due("height of " + f + " behind " + call, x.field(f, 0), heights[f]);
        }
    }
}
