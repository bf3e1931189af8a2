/** Promises 46 to 49: what is kept, what is counted, the row. */
public final class KeptTest {
    public static void main(String[] args) {
        kept();
        counts();
        rows();
        Check.finish();
    }

    private static void kept() {
        CommandByTurns x = Check.on("0~5312~4");
        Check.due("nothing is kept", x.again(0), false);
        Check.due("keep(-1)", x.keep(-1), false);
        Check.due("keep(2)", x.keep(2), false);
        Check.due("again(-1)", x.again(-1), false);
        Check.due("again(2)", x.again(2), false);
        x.march(3);
        x.lend(70);
        x.sick(1, 4);
        Check.due("keep(1)", x.keep(1), true);
        Check.due("again(0)", x.again(0), false);
        x.foe(4);
        Check.war(x, "hhl");
        x.send(1, 7);
        x.send(2, 8);
        x.sick(0, 4);
        Check.due("again(1)", x.again(1), true);
        int[] counts = {6, 1, 3, 5, 900, 900, 490, 1};
        for (int what = 0; what < counts.length; what++) {
            Check.due("count(" + what + ") as kept", x.count(what), counts[what]);
        }
        Check.due("sickness as kept", x.consul(1, 3), 4);
        Check.due("sickness as kept", x.consul(0, 3), -1);
        Check.due("nothing can be undone", x.undo(), -1);
        x.halt();
        Check.due("refused", x.again(0), false);
        Check.due("a refused one forgets nothing", x.count(10), 1);
        Check.due("once more", x.again(1), true);
        Check.due("day", x.count(1), 1);
        x.set(0, 0, 1);
        x.again(1);
        Check.due("bold is not kept", x.consul(0, 0), 1);
        x.keep(0);
        Check.due("keep() can't be undone", x.undo(), -1);
        Check.write(x, "1");
        x.ground();
        Check.due("a refused ground leaves it", x.again(0), true);
        Check.write(x, "12");
        x.ground();
        Check.due("the ground was told since", x.again(0), false);
        Check.due("the ground was told since", x.again(1), false);
    }

    private static void counts() {
        CommandByTurns x = Check.on("000");
        Check.due("not near", x.count(8), 0);
        x.foe(1);
        Check.due("neighbours are near", x.count(8), 1);
        x.foe(0);
        Check.due("one field is near", x.count(8), 1);
        x.sign(0);
        Check.due("signs", x.count(12), 4);
        Check.due("count(13)", x.count(13), -1);
        Check.due("count(-1)", x.count(-1), -1);
        Check.due("count(MAX)", x.count(Integer.MAX_VALUE), -1);
    }

    private static void rows() {
        CommandByTurns x = new CommandByTurns();
        Check.noSuch("row(0) of a new object", () -> x.row(0));
        x.march(1);
        Check.due("two numbers", x.count(11), 2);
        Check.due("row(1)", x.row(1), 490);
        Check.noSuch("row(2)", () -> x.row(2));
        Check.noSuch("row(-1)", () -> x.row(-1));
        Check.noSuch("row(MIN)", () -> x.row(Integer.MIN_VALUE));
        x.lasts();
        x.whose();
        x.foe(0);
        x.send(0, 1);
        x.lend(9);
        x.undo();
        x.stops(3, 3);
        x.sheet(2, 2, 0, 0);
        Check.rowIs(x, "calls that tell none", 0, 490);
        x.halt();
        Check.rowIs(x, "a call that tells one", 1);
    }
}
