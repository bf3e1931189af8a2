/** "Terms" 1 and 2: each sentence at its boundaries. */
public final class TermsEdgesTest {
    /** What issue() answers for a field that is not near, less 501. */
    private static final int NOT_NEAR = -504;

    public static void main(String[] args) {
        fieldsAndHeights();
        atMostTwentyThreeSigns();
        reachByBold();
        aRiverCountsForOneMore();
        nearIsLikeOrNeighbours();
        whoseByTheRest();
        lentDaysEndWithNinetyNine();
        sickTillADayThatOneToo();
        lentAndSick();
        theRuleAtFirst();
        theRuleWorkedOut();
        theRuleWrapsAround();
        thingsOfABattle();
        issueIsPutIntoItsBounds();
        battlesAroundNought();
        battlesLeaveNoughtAtLeast();
        nightsWithJustEnough();
        nightsByHundreds();
        aTenthIsCut();
        menAsAheadOfTheNight();
        fractionsInLowestTerms();
        callsThatTellNoRow();
        questionsChangeNothing();
        Check.finish();
    }

    private static void fieldsAndHeights() {
        CommandByTurns x = new CommandByTurns();
        Check.due("at first two fields", x.count(0), 2);
        for (int f = 0; f < 2; f++) {
            Check.due("height at first of " + f, x.field(f, 0), 0);
            Check.due("no river at first behind " + f, x.field(f, 1), 0);
        }
        int[] answers = {-1, -2, 2, 3, 4, 5, 6, 7, 8, 9, 10, 11, 12, -13, -13};
        for (int n = 0; n < answers.length; n++) {
            Check.due("a ground of " + n + " digits", Check.ground(new CommandByTurns(), "7".repeat(n)), answers[n]);
        }
        Check.due("heights 0 and 9", Check.ground(x, "09"), 2);
        Check.due("0", x.field(0, 0), 0);
        Check.due("9", x.field(1, 0), 9);
        Check.due("the sign ahead of 0", Check.ground(x, "0/"), -2);
        Check.due("the sign behind 9", Check.ground(x, "9:"), -2);
    }

    private static void atMostTwentyThreeSigns() {
        String most = "1~2~3~4~5~6~7~8~9~0~1~2";
        Check.due("22 signs", Check.ground(new CommandByTurns(), "12~3~4~5~6~7~8~9~0~1~2"), 12);
        CommandByTurns x = new CommandByTurns();
        Check.due("23 signs", Check.ground(x, most), 12);
        for (int f = 0; f < 12; f++) {
            Check.due("river behind " + f, x.field(f, 1), f < 11 ? 1 : 0);
        }
        Check.due("24 signs", Check.ground(x, most + "~"), -25);
        Check.due("25 signs", Check.ground(x, most + "~3"), -25);
        Check.due("a thirteenth digit", Check.ground(x, most + "3"), -24);
    }

    private static void reachByBold() {
        int[] reaches = {1, 1, 1, 2, 2, 2, 3, 3, 3, 4};
        for (int bold = 0; bold <= 9; bold++) {
            for (int step = -1; step <= 1; step += 2) {
                CommandByTurns x = inTheMiddle();
                x.set(x.whose(), 0, bold);
                String call = "with bold " + bold + " a march towards " + step;
                Check.due("reach by bold " + bold, x.consul(x.whose(), 2), reaches[bold]);
                Check.due(call + ", one too many", x.march(step * (reaches[bold] + 1)), -4);
                Check.due(call, x.march(step * reaches[bold]), 5 + step * reaches[bold]);
            }
        }
    }

    /** The army is in field 5 of twelve, the foe is out of the way. */
    private static CommandByTurns inTheMiddle() {
        CommandByTurns x = Check.on("000000000000");
        x.march(4);
        x.march(1);
        return x;
    }

    private static void aRiverCountsForOneMore() {
        CommandByTurns x = Check.on("00~00");
        x.set(0, 0, 0);
        Check.due("a river behind the goal does not count", x.march(1), 1);
        x.set(1, 0, 2);
        Check.due("reach 1 over the river", x.march(1), -4);
        x.set(1, 0, 3);
        Check.due("reach 2 over the river", x.march(1), 2);
        x.set(0, 0, 2);
        Check.due("reach 1 back over it", x.march(-1), -4);
        Check.due("a river behind the army does not count", x.march(1), 3);
        x.set(1, 0, 5);
        Check.due("reach 2 by two fields and the river", x.march(-2), -4);
        x.set(1, 0, 6);
        Check.due("reach 3 by two fields and the river", x.march(-2), 1);
        CommandByTurns y = Check.on("0~0~0~0");
        Check.due("reach 4 over three rivers", y.march(3), -4);
        Check.due("reach 4 over two rivers", y.march(2), 2);
    }

    private static void nearIsLikeOrNeighbours() {
        int[] near = {0, 1, 1, 1, 0};
        CommandByTurns x = Check.on("00000");
        x.march(2);
        for (int f = 0; f < near.length; f++) {
            x.foe(f);
            Check.due("near with the foe in " + f, x.count(8), near[f]);
        }
    }

    private static void whoseByTheRest() {
        CommandByTurns x = new CommandByTurns();
        for (int day = 0; day < 6; day++) {
            Check.due("the day", x.count(1), day);
            Check.due("whose day " + day + " is", x.whose(), day % 2);
            x.halt();
        }
    }

    private static void lentDaysEndWithNinetyNine() {
        CommandByTurns x = new CommandByTurns();
        x.lend(0);
        x.lend(98);
        x.lend(99);
        Check.due("day 0 is lent", x.whose(), 1);
        Check.halts(x, 1);
        Check.due("day 1 is not", x.whose(), 1);
        Check.halts(x, 96);
        int[] whose = {1, 1, 0, 0, 1};
        for (int i = 0; i < whose.length; i++) {
            Check.due("whose day " + (97 + i) + " is", x.whose(), whose[i]);
            x.halt();
        }
        CommandByTurns y = new CommandByTurns();
        y.lend(64);
        y.lend(65);
        Check.halts(y, 127);
        for (int day = 127; day < 131; day++) {
            Check.due("whose day " + day + " is, 64 days behind lent ones", y.whose(), day % 2);
            y.halt();
        }
    }

    private static void sickTillADayThatOneToo() {
        CommandByTurns x = new CommandByTurns();
        Check.halts(x, 2);
        Check.due("sick for one day", x.sick(0, 1), 2);
        Check.due("that day is the other one's", x.whose(), 1);
        x.halt();
        Check.due("the other one's own day", x.whose(), 1);
        x.halt();
        Check.due("well again", x.whose(), 0);
        Check.due("sick till day 6", x.sick(0, 3), 6);
        int[] whose = {1, 1, 1, 1, 0};
        for (int i = 0; i < whose.length; i++) {
            Check.due("whose day " + (4 + i) + " is", x.whose(), whose[i]);
            x.halt();
        }
    }

    private static void lentAndSick() {
        CommandByTurns x = new CommandByTurns();
        x.lend(0);
        Check.due("lent", x.whose(), 1);
        x.sick(0, 1);
        Check.due("lent, consul 0 is sick", x.whose(), 1);
        x.sick(1, 1);
        Check.due("lent, both are sick", x.whose(), -1);
        x.undo();
        x.undo();
        x.sick(1, 1);
        Check.due("lent, consul 1 is sick", x.whose(), 0);
        x.lend(0);
        Check.due("not lent, consul 1 is sick", x.whose(), 0);
        x.sick(0, 1);
        Check.due("not lent, both are sick", x.whose(), -1);
        x.halt();
        Check.due("behind their last day", x.whose(), 1);
    }

    private static void theRuleAtFirst() {
        CommandByTurns x = Check.on("01");
        Check.due("4 for each height", x.issue(0, 0), 501 + 30 - 4);
        Check.due("3 for boldness and one more", x.issue(1, 1), 501 + 12);
        int[] dues = {30, 29, 29, 28};
        for (int due : dues) {
            x.send(2, 10);
            Check.due("half of the men's difference is cut to 0", x.issue(1, 0), 501 + due);
        }
        Check.rule(x, "7");
        Check.due("another rule", x.issue(1, 0), 508);
        Check.rule(x, "");
        Check.due("none again", x.issue(1, 0), 501 + 28);
    }

    private static void theRuleWorkedOut() {
        Object[][] rules = {{"1<2", 1}, {"2<2", 0}, {"3<2", 0}, {"1>2", 0}, {"2>2", 0}, {"3>2", 1}, {"1=2", 0}, {"2=2", 1},
            {"3=2", 0}, {"1<2+3", 1}, {"1+2<3", 0}, {"1+2=3", 1}, {"5-4>0", 1}, {"9-3-2", 4}, {"9-3+2", 8}, {"1-2*3", -5},
            {"2*3-1", 5}, {"2*7/4", 3}, {"7/2*2", 6}, {"100/10/5", 2}, {"7/0", 0}, {"-7/0", 0}, {"0/0", 0}, {"9-7/0", 9},
            {"7/(1-1)*5", 0}, {"7/2", 3}, {"-7/2", -3}, {"7/-2", -3}, {"-7/-2", 3}, {"1/2", 0}, {"-1/2", 0}, {"2/2", 1},
            {"-1", -1}, {"--1", 1}, {"---1", -1}, {"-".repeat(38) + "b", 9}, {"-".repeat(39) + "b", -9},
            {"-1+2", 1}, {"2--1", 3}, {"2---1", 1}, {"2*-3", -6}, {"-2*-3", 6},
            {"-(1<2)", -1}, {"-1<0", 1}, {"2-(1<2)", 1}, {"0", 0}, {"9", 9}, {"10", 10}, {"99", 99}, {"100", 100},
            {"000", 0}, {"007", 7}, {"((((4))))", 4}, {"2*(1+(2*(3-(1))))", 10}, {"(1<2)=(2>1)", 1}, {"(2=2)+(2=2)", 2}};
        for (Object[] r : rules) {
            CommandByTurns x = new CommandByTurns();
            Check.due("rule() of " + r[0], Check.rule(x, (String) r[0]), 0);
            Check.due("the issue by " + r[0], x.issue(0, 0), 501 + (int) r[1]);
        }
    }

    /** 256*256*256 is 2 to the 24th: times 127, 128 and 256 it is below, at and far beyond the end of the ints. */
    private static void theRuleWrapsAround() {
        String p = "256*256*256*";
        Object[][] rules = {{p + "127", 500}, {p + "128", -500}, {p + "129", -500}, {p + "128-1", 500}, {p + "256", 0},
            {p + "256+7", 7}, {"-" + p + "128", -500}, {"-(" + p + "128)", -500}, {p + "128/-1", -500},
            {p + "128/-1+1", -500}, {"-" + p + "128-1", 500}, {p + "128<0", 1}, {p + "127>0", 1}, {p + "128-1>0", 1}};
        for (Object[] r : rules) {
            CommandByTurns x = new CommandByTurns();
            Check.due("rule() of " + r[0], Check.rule(x, (String) r[0]), 0);
            Check.due("the issue by " + r[0], x.issue(0, 0), 501 + (int) r[1]);
        }
    }

    private static void thingsOfABattle() {
        CommandByTurns x = Check.on("94~0");
        x.foe(1);
        things(x, "h", 5, 0, -4);
        things(x, "w", 0, 0, 1);
        x.foe(2);
        Check.due("a river between, the army below", x.issue(1, 0), 502);
        Check.due("no river in the foe's own field", x.issue(2, 0), 501);
        things(x, "b", NOT_NEAR, 9, 9);
        things(x, "l", NOT_NEAR, 5, 5);
        Check.due("of who commands then", x.issue(2, 1), 506);
        x.set(1, 1, 9);
        Check.due("of who commands then", x.issue(2, 1), 510);
        byTens(x, "m", 1, 90);
        byTens(x, "e", 2, 90);
        byTens(x, "f", 0, 50);
        Check.rule(x, "d");
        int[][] days = {{0, 0}, {1, 1}, {9, 9}, {10, 0}, {11, 1}, {19, 9}, {20, 0}, {29, 9}, {30, 0}};
        for (int[] day : days) {
            Check.due("d in " + day[0] + " days", x.issue(2, day[0]), 501 + day[1]);
        }
    }

    private static void things(CommandByTurns x, String thing, int... byField) {
        Check.rule(x, thing);
        for (int f = 0; f < byField.length; f++) {
            Check.due(thing + " in field " + f, x.issue(f, 0), 501 + byField[f]);
        }
    }

    private static void byTens(CommandByTurns x, String thing, int what, int tens) {
        Check.rule(x, thing);
        Check.due(thing, x.issue(2, 0), 501 + tens);
        x.send(what, 9);
        Check.due(thing + " with nine more", x.issue(2, 0), 501 + tens);
        x.send(what, 1);
        Check.due(thing + " with ten more", x.issue(2, 0), 501 + tens + 1);
    }

    private static void issueIsPutIntoItsBounds() {
        String[] rules = {"499", "500", "501", "999*999", "-499", "-500", "-501", "-999*999"};
        int[] issues = {499, 500, 500, 500, -499, -500, -500, -500};
        for (int i = 0; i < rules.length; i++) {
            CommandByTurns x = new CommandByTurns();
            Check.rule(x, rules[i]);
            Check.due("the issue by " + rules[i], x.issue(0, 0), 501 + issues[i]);
            Check.due("a battle by " + rules[i], x.fight(), 501 + issues[i]);
            int lost = Math.abs(issues[i]);
            Check.rowIs(x, "a battle by " + rules[i], 900 - (issues[i] > 0 ? lost / 3 : lost),
                    900 - (issues[i] > 0 ? lost : lost / 3));
        }
    }

    private static void battlesAroundNought() {
        int[][] battles = {{0, 900, 900}, {1, 900, 899}, {2, 900, 898}, {3, 899, 897}, {4, 899, 896}, {5, 899, 895},
            {6, 898, 894}, {-1, 899, 900}, {-2, 898, 900}, {-3, 897, 899}, {-4, 896, 899}, {-5, 895, 899}, {-6, 894, 898}};
        for (int[] b : battles) {
            CommandByTurns x = new CommandByTurns();
            Check.rule(x, Integer.toString(b[0]));
            Check.due(x, "a battle by " + b[0], x.fight(), 501 + b[0], b[1], b[2]);
        }
    }

    private static void battlesLeaveNoughtAtLeast() {
        int[][] last = {{-399, 1, 601}, {-400, 0, 601}, {-401, 0, 601}, {399, 601, 1}, {400, 601, 0}, {401, 601, 0}};
        for (int[] b : last) {
            CommandByTurns x = new CommandByTurns();
            Check.rule(x, b[0] < 0 ? "-500" : "500");
            x.fight();
            Check.rule(x, Integer.toString(b[0]));
            Check.due(x, "a battle by " + b[0], x.fight(), 501 + b[0], b[1], b[2]);
        }
        CommandByTurns y = new CommandByTurns();
        fights(y, "-500", "-300", "500");
        Check.rowIs(y, "a third is more than the army has", 0, 134);
        CommandByTurns z = new CommandByTurns();
        fights(z, "500", "300", "-500");
        Check.rowIs(z, "a third is more than the foe has", 134, 0);
    }

    private static void fights(CommandByTurns x, String... rules) {
        for (String rule : rules) {
            Check.rule(x, rule);
            x.fight();
        }
    }

    /** 9999 men, of whom a night takes 100. */
    private static CommandByTurns many() {
        CommandByTurns x = new CommandByTurns();
        for (int i = 0; i < 10; i++) {
            x.send(1, 999);
        }
        return x;
    }

    private static void nightsWithJustEnough() {
        CommandByTurns x = many();
        Check.halts(x, 4);
        Check.due("as much as it takes", x.halt(), 0);
        Check.due("nobody is lost", x.count(4), 9999);
        x.undo();
        x.send(0, 1);
        Check.due("one more than it takes", x.halt(), 1);
        Check.due("nobody is lost", x.count(4), 9999);
        Check.due("not so much", x.halt(), 0);
        Check.due("a tenth is lost", x.count(4), 9000);
        CommandByTurns y = many();
        y.send(0, 99);
        Check.halts(y, 5);
        Check.due("one less than it takes", y.count(6), 99);
        Check.due("it is 0 then", y.halt(), 0);
        Check.due("a tenth is lost", y.count(4), 9000);
        Check.due("the day is one more", y.count(1), 6);
    }

    private static void nightsByHundreds() {
        int[][] nights = {{400, 0, 1}, {399, 1, 1}, {302, 98, 1}, {301, 99, 1}, {300, 100, 2}, {299, 101, 2}, {201, 199, 2},
            {200, 200, 3}};
        for (int[] n : nights) {
            CommandByTurns x = new CommandByTurns();
            fights(x, "-500");
            Check.due("food behind the first night", x.count(6), 495);
            fights(x, "-" + n[0]);
            Check.due("men", x.count(4), n[1]);
            Check.due("food behind a night of " + n[1], x.count(6), 495 - n[2]);
        }
    }

    private static void aTenthIsCut() {
        CommandByTurns x = new CommandByTurns();
        Check.halts(x, 50);
        Check.due("no food", x.count(6), 0);
        Check.due("nobody lost yet", x.count(4), 900);
        fights(x, "-500");
        Check.due("400 less a tenth", x.count(4), 360);
        int[][] tenths = {{360, 0, 0}, {351, 9, 9}, {350, 10, 9}, {349, 11, 10}, {341, 19, 18}, {340, 20, 18}};
        for (int[] t : tenths) {
            fights(x, "-" + t[0]);
            Check.due("men ahead of the night", x.row(0), t[1]);
            Check.due("men behind the night", x.count(4), t[2]);
            Check.due("no food", x.count(6), 0);
            x.undo();
        }
    }

    private static void menAsAheadOfTheNight() {
        CommandByTurns x = new CommandByTurns();
        Check.halts(x, 49);
        Check.due("food for 900 men", x.count(6), 10);
        x.send(1, 100);
        Check.due("not for 1000", x.halt(), 0);
        Check.due("900 are left, for whom it would do", x.count(4), 900);
        CommandByTurns y = new CommandByTurns();
        fights(y, "-1");
        Check.due("a night behind a battle takes what is left by it", y.count(6), 491);
    }

    private static void fractionsInLowestTerms() {
        CommandByTurns x = new CommandByTurns();
        Check.due(x, "0 by 1", x.rain(1, 0), 0, 0, 1);
        Check.due(x, "1 by 1", x.rain(1, 10), 0, 1, 1);
        Check.due(x, "1 by 2", x.rain(1, 5), 0, 1, 2);
        Check.due(x, "4 by 5", x.rain(1, 8), 0, 4, 5);
        Check.due(x, "9 by 10", x.rain(1, 9), 0, 9, 10);
    }

    /** Calls that do not speak of the ROW leave it. */
    private static void callsThatTellNoRow() {
        CommandByTurns x = Check.on("0~5312~4");
        x.march(3);
        Check.rowIs(x, "march()", 0, 490);
        x.sign(0x31323334);
        x.end(3);
        x.wishes(0);
        Check.rule(x, "b");
        x.field(0, 0);
        x.consul(0, 0);
        x.set(0, 0, 9);
        x.sheet(2, 3, 1, 1);
        x.whose();
        x.foe(4);
        x.send(0, 10);
        x.lend(5);
        x.sick(1, 1);
        x.undo();
        x.lasts();
        x.seen(1, 1);
        x.forget();
        x.stops(3, 3);
        x.keep(0);
        x.again(0);
        x.count(4);
        Check.rowIs(x, "calls that tell none", 0, 490);
        Check.ground(x, "123");
        Check.rowIs(x, "ground()", 0, 490);
    }

    private static void questionsChangeNothing() {
        Twin.question("whose()", Twin::busy, x -> x.whose());
        Twin.question("field()", Twin::busy, x -> x.field(5, 1));
        Twin.question("consul()", Twin::busy, x -> x.consul(1, 4));
        Twin.question("comes()", Twin::busy, x -> x.comes(1, 30));
        Twin.question("issue()", Twin::busy, x -> x.issue(4, 30));
        Twin.question("reach()", Twin::busy, x -> x.reach(0));
        Twin.question("evening()", Twin::busy, x -> x.evening());
        Twin.question("lasts()", Twin::busy, x -> x.lasts());
        Twin.question("feeds()", Twin::busy, x -> x.feeds(99));
        Twin.question("boldness()", Twin::busy, x -> x.boldness(4));
        Twin.question("arrives()", Twin::busy, x -> x.arrives(0));
        Twin.question("avoids()", Twin::busy, x -> x.avoids(20));
        Twin.question("safe()", Twin::busy, x -> x.safe(20));
        Twin.question("forces()", Twin::busy, x -> x.forces(10));
        Twin.question("offers()", Twin::busy, x -> x.offers(30));
        Twin.question("bargain()", Twin::busy, x -> x.bargain());
        Twin.question("share()", Twin::busy, x -> x.share(20));
        Twin.question("command()", Twin::busy, x -> x.command(30));
        Twin.question("halves()", Twin::busy, x -> x.halves());
        Twin.question("was()", Twin::busy, x -> x.was(20, 3));
        Twin.question("sure()", Twin::busy, x -> x.sure(20, 3));
        Twin.question("ask()", Twin::busy, x -> x.ask(20, 3));
        Twin.question("rain()", Twin::busy, x -> x.rain(12, 3));
        Twin.question("stops()", Twin::busy, x -> x.stops(15, 3));
        Twin.question("rests()", Twin::busy, x -> x.rests());
        Twin.question("years()", Twin::busy, x -> x.years(5, 60));
        Twin.question("count()", Twin::busy, x -> x.count(9));
        Twin.question("row()", Twin::busy, x -> x.row(0));
    }
}
