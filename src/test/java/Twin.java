import java.util.ArrayList;
import java.util.List;
import java.util.NoSuchElementException;
import java.util.function.Supplier;
import java.util.function.ToLongFunction;

/**
 * Two objects that were made and used alike: one of them gets a call more, and then all that can be asked is asked of
 * both, what can be undone and what is kept among it. So a call that should change nothing is looked at from all sides.
 */
final class Twin {
    private static final long THROWN = Long.MIN_VALUE;

    private Twin() {
    }

    /** An object with something in all of its parts. */
    static CommandByTurns busy() {
        CommandByTurns x = Check.on("0~5312~4");
        Check.wishes(x, 0, "12312309");
        Check.wishes(x, 1, "98760123");
        Check.rule(x, "b*9+l*2-h+m-e+f*3+d*7+w*50");
        x.set(1, 1, 7);
        x.seen(2, 3);
        x.seen(3, 1);
        x.keep(1);
        x.lend(6);
        x.march(3);
        x.send(1, 55);
        x.keep(0);
        x.lend(40);
        x.sick(1, 3);
        x.march(1);
        Check.write(x, "48");
        return x;
    }

    /** A call that can't be done: its answer, and nothing is changed, the ROW and THE TEXT neither. */
    static void refused(String call, Supplier<CommandByTurns> made, ToLongFunction<CommandByTurns> asked, long want) {
        CommandByTurns one = made.get();
        Check.due(call, asked.applyAsLong(one), want);
        compare(call, all(one, true), all(made.get(), true));
    }

    static void refused(String call, ToLongFunction<CommandByTurns> asked) {
        refused(call, Twin::busy, asked, CommandByTurns.NONE);
    }

    /** A call that can't read a text: its answer, and nothing is changed, but that THE TEXT is empty. */
    static void unread(String call, String text, ToLongFunction<CommandByTurns> asked, long want) {
        CommandByTurns one = busy();
        Check.write(one, text);
        Check.due(call, asked.applyAsLong(one), want);
        CommandByTurns other = busy();
        other.end(0);
        compare(call, all(one, true), all(other, true));
    }

    /** A question: it changes nothing but the ROW. */
    static void question(String call, Supplier<CommandByTurns> made, ToLongFunction<CommandByTurns> asked) {
        CommandByTurns one = made.get();
        asked.applyAsLong(one);
        compare(call, all(one, false), all(made.get(), false));
    }

    static void throwsNoSuch(String call, ToLongFunction<CommandByTurns> asked) {
        refused(call + " throws", Twin::busy, x -> orThrown(x, asked), THROWN);
    }

    private static long orThrown(CommandByTurns x, ToLongFunction<CommandByTurns> asked) {
        try {
            return asked.applyAsLong(x);
        } catch (NoSuchElementException e) {
            return THROWN;
        }
    }

    private static void compare(String call, List<String> got, List<String> want) {
        Check.due("answers behind " + call, got.size(), want.size());
        for (int i = 0; i < got.size() && i < want.size(); i++) {
            if (!got.get(i).equals(want.get(i))) {
                Check.due("behind " + call, got.get(i), want.get(i));
                return;
            }
        }
    }

    /** All that can be asked; the object is used up by it. (An object has 512 calls.) */
    private static List<String> all(CommandByTurns x, boolean withRow) {
        List<String> told = new ArrayList<>();
        if (withRow) {
            tellRow(told, x);
        }
        tellStanding(told, x);
        tell(told, "signs", x.count(12));
        for (int f = 0; f < x.count(0); f++) {
            tell(told, "height", x.field(f, 0));
            tell(told, "river", x.field(f, 1));
        }
        for (int c = 0; c < 2; c++) {
            tell(told, "bold", x.consul(c, 0));
            tell(told, "liked", x.consul(c, 1));
            tell(told, "wish", x.consul(c, 4));
        }
        tellQuestions(told, x);
        tellText(told, x);
        tell(told, "to be undone", x.count(10));
        for (int i = 0; i < 13; i++) {
            tell(told, "undo", x.undo());
            tellStanding(told, x);
        }
        for (int i = 0; i < 2; i++) {
            tell(told, "again", x.again(i) ? 1 : 0);
            tellStanding(told, x);
        }
        tell(told, "comes then", x.comes(0, 30));
        return told;
    }

    private static void tellQuestions(List<String> told, CommandByTurns x) {
        for (int c = 0; c < 2; c++) {
            tell(told, "comes", x.comes(c, 30));
            tell(told, "reach", x.reach(c));
        }
        for (int f = x.count(3) - 1; f <= x.count(3) + 1; f++) {
            for (int n = 0; n < 30; n += 7) {
                tell(told, "issue", x.issue(f, n));
            }
        }
        tell(told, "bargain", x.bargain());
        tellRow(told, x);
        tell(told, "share", x.share(20));
        tellRow(told, x);
        tell(told, "seen", x.count(9));
        tell(told, "was", x.was(20, 3));
        tellRow(told, x);
        tell(told, "years", x.years(77, 30));
        tellRow(told, x);
    }

    private static void tellText(List<String> told, CommandByTurns x) {
        tell(told, "wishes by the text", x.wishes(1));
        tell(told, "wish by the text", x.consul(1, 4));
        tell(told, "share by the text", x.share(20));
    }

    private static void tellStanding(List<String> told, CommandByTurns x) {
        for (int what = 0; what <= 8; what++) {
            tell(told, "count(" + what + ")", x.count(what));
        }
        tell(told, "whose", x.whose());
        tell(told, "consul 0 is sick till", x.consul(0, 3));
        tell(told, "consul 1 is sick till", x.consul(1, 3));
    }

    private static void tellRow(List<String> told, CommandByTurns x) {
        for (int i = 0; i < x.count(11); i++) {
            tell(told, "row(" + i + ")", x.row(i));
        }
        tell(told, "numbers of the row", x.count(11));
    }

    private static void tell(List<String> told, String what, long answer) {
        told.add(what + " = " + answer);
    }
}
