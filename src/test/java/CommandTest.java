/** Promises 35 and 36: the rule of command that loses least, an army in halves. */
public final class CommandTest {
    public static void main(String[] args) {
        commands();
        halves();
        Check.finish();
    }

    private static void commands() {
        CommandByTurns x = Check.on("000");
        Check.due("not near", x.command(5), -2);
        x.foe(1);
        Check.due(x, "always consul 0", x.command(5), 2, 0, 150);
        Check.rule(x, "-b");
        Check.due(x, "always consul 1", x.command(5), 2, 3, -15);
        Check.due(x, "a day: the least bits", x.command(1), 2, 1, -3);
        Check.rule(x, "b*(1-2*(d>1))");
        Check.due(x, "a rule of four", x.command(4), 4, 12, 12);
        Check.due(x, "a rule of three", x.command(3), 3, 4, 15);
        Check.due(x, "a rule of two", x.command(2), 2, 0, 18);
        Check.rule(x, "b*(1-2*(d=1))");
        Check.due(x, "two of two", x.command(2), 2, 2, 6);
        x.sick(0, 9);
        x.sick(1, 9);
        x.lend(1);
        Check.due(x, "nobody is sick, no day is lent", x.command(2), 2, 2, 6);
        x.halt();
        Check.due(x, "the first day is today's", x.command(2), 2, 1, 6);
        Check.due(x, "command(0)", x.command(0), -1, 1, 6);
        Check.due(x, "command(31)", x.command(31), -1, 1, 6);
        Check.rule(x, "500");
        Check.due(x, "thirty days", x.command(30), 2, 0, 15000);
        CommandByTurns z = new CommandByTurns();
        Check.rule(z, "b*(1-2*(d=4))");
        Check.due(z, "no rule has five days", z.command(5), 2, 0, 27);
        Check.rule(z, "b*(1-2*(d-d/2*2))");
        Check.due(z, "again and again", z.command(6), 2, 2, 18);
        Check.rule(z, "b*(1-2*(d-d/3*3=1))");
        Check.due(z, "three again and again", z.command(9), 3, 2, 45);
        CommandByTurns y = Check.on("3~1");
        Check.rule(y, "w*100+h");
        Check.due(y, "as they stand now", y.command(1), 2, 0, 102);
        x.foe(2);
        Check.due("not near is asked behind the number", x.command(31), -1);
    }

    private static void halves() {
        CommandByTurns x = Check.on("000");
        Check.due(x, "near or not", x.halves(), 0, 42, 8);
        Check.rule(x, "m");
        Check.due(x, "of equal ones the least", x.halves(), 0, 90, 0);
        Check.rule(x, "m*(b>5)");
        Check.due(x, "all with consul 0", x.halves(), 9, 90, 90);
        x.send(1, 99);
        Check.due(x, "hundreds alone", x.halves(), 9, 90, 90);
        Check.rule(x, "m*(b<5)");
        Check.due(x, "all with consul 1", x.halves(), 0, 99, 0);
        x.send(2, 21);
        Check.rule(x, "e");
        Check.due(x, "the foe in two like parts", x.halves(), 0, 92, 46);
        Check.rule(x, "f+d");
        x.halt();
        Check.due(x, "food and day as now", x.halves(), 0, 100, 50);
        Check.rule(x, "-(m-20)*(m-20)*(b>5)");
        Check.due(x, "two hundreds", x.halves(), 2, 0, 0);
        for (int i = 0; i < 10; i++) {
            x.send(1, 999);
        }
        Check.rule(x, "(m=500)*(b>5)*9+(m=499)*(b<5)");
        Check.due(x, "fifty hundreds, 4999 men are left", x.halves(), 50, 10, 9);
        CommandByTurns y = Check.on("5~2");
        Check.rule(y, "w*100+h");
        Check.due(y, "no river between", y.halves(), 0, 6, 3);
        Check.rule(y, "-500");
        y.fight();
        y.fight();
        Check.rule(y, "m+1");
        Check.due(y, "no men", y.halves(), 0, 2, 1);
    }
}
