/** Promises 29 to 32: how long a battle is avoided, where it is safe, how it is forced, when it is offered. */
public final class GamesTest {
    private static final String PLAIN = "000000000000";

    public static void main(String[] args) {
        avoided();
        avoidedForEver();
        safeFields();
        forced();
        offered();
        Check.finish();
    }

    private static void avoided() {
        CommandByTurns x = Check.on(PLAIN);
        Check.due(x, "till the seventh day", x.avoids(20), 6, 4, 2, 6, 4, 8, 6);
        Check.due(x, "six days", x.avoids(6), 6, 4, 2, 6, 4, 8, 6);
        Check.due(x, "five days, the last one as it likes", x.avoids(5), 5, 4, 2, 6, 4, 8);
        Check.due(x, "two days, the least row", x.avoids(2), 2, 4, 2);
        Check.due(x, "avoids(0)", x.avoids(0), -1, 4, 2);
        Check.due(x, "avoids(21)", x.avoids(21), -1, 4, 2);
        Check.due("it changes nothing", x.count(2), 0);
        CommandByTurns y = new CommandByTurns();
        Check.due(y, "near today", y.avoids(1), 0);
        y.sick(0, 3);
        y.sick(1, 3);
        Check.due(y, "nobody's days and consul 1's are no battle", y.avoids(5), 4, 0, 0, 0, 0);
        CommandByTurns z = Check.on("0~5312~4");
        Check.due(z, "over rivers", z.avoids(3), 2, 3, 1);
        z.foe(0);
        Check.due(z, "from the foe's own field it does not go", z.avoids(1), 0);
    }

    private static void avoidedForEver() {
        CommandByTurns x = Check.on("000000");
        x.set(0, 0, 0);
        long[] row = new long[20];
        for (int i = 0; i < 20; i++) {
            row[i] = 1 - i % 2;
        }
        Check.due(x, "twenty days", x.avoids(20), 20, row);
        x.halt();
        x.foe(0);
        Check.due(x, "consul 1 first, from the foe's own field", x.avoids(2), 1, 0);
        x.foe(2);
        Check.due(x, "near, but not on a day of consul 0", x.avoids(1), 1, 0);
    }

    private static void safeFields() {
        CommandByTurns x = Check.on(PLAIN);
        Check.due(x, "safe(1)", x.safe(1), 63, 6);
        Check.due(x, "safe(2)", x.safe(2), 63, 6);
        Check.due(x, "safe(3)", x.safe(3), 15, 4);
        Check.due(x, "safe(7)", x.safe(7), 0, 0);
        x.foe(0);
        Check.due(x, "the foe at the other end", x.safe(1), 0xFC0, 6);
        Check.due(x, "safe(0)", x.safe(0), -1, 6);
        Check.due(x, "safe(21)", x.safe(21), -1, 6);
        x.foe(6);
        Check.due(x, "on both sides of the foe", x.safe(1), 1, 1);
        x.halt();
        Check.due(x, "a day of consul 1", x.safe(1), 0xFFF, 12);
        x.sick(1, 20);
        x.sick(0, 20);
        Check.due(x, "nobody's days", x.safe(20), 0xFFF, 12);
    }

    private static void forced() {
        CommandByTurns x = Check.on(PLAIN);
        Check.due(x, "it is so now", x.forces(7), 0, 0);
        Check.due(x, "one day of two", x.forces(4), 1, 2);
        Check.due(x, "by none", x.forces(2), -2, 2);
        Check.due(x, "forces(3)", x.forces(3), 1, 2);
        Check.due(x, "forces(0)", x.forces(0), -1, 2);
        Check.due(x, "forces(11)", x.forces(11), -1, 2);
        x.set(0, 0, 0);
        Check.due(x, "all five", x.forces(10), 5, 0b1010101010);
        Check.due(x, "not even all", x.forces(9), -2, 0b1010101010);
        CommandByTurns y = new CommandByTurns();
        y.halt();
        Check.due(y, "near, but on consul 1's day", y.forces(1), 1, 1);
        y.sick(0, 1);
        y.sick(1, 1);
        Check.due(y, "nobody's day can't be given", y.forces(1), -2, 1);
    }

    private static void offered() {
        CommandByTurns x = Check.on("0~5312~4");
        Check.due(x, "on consul 1's day", x.offers(2), 1, 497);
        Check.due(x, "of one day", x.offers(1), 0, 515);
        Check.due(x, "of equal ones the first", x.offers(30), 1, 497);
        Check.rule(x, "5-d");
        Check.due(x, "by the day", x.offers(8), 7, 499);
        Check.due(x, "the ninth of d is the first", x.offers(30), 9, 497);
        x.sick(0, 8);
        x.sick(1, 8);
        Check.due(x, "all are nobody's", x.offers(8), -2, 497);
        Check.due(x, "but one", x.offers(9), 8, 498);
        Check.due(x, "offers(0)", x.offers(0), -1, 498);
        Check.due(x, "offers(31)", x.offers(31), -1, 498);
        CommandByTurns y = Check.on("0~0");
        Check.rule(y, "w*9");
        Check.due(y, "no river between", y.offers(1), 0, 501);
    }
}
