import java.util.NoSuchElementException;
import java.util.function.IntToLongFunction;

/** What the tests share: answers that are due, texts that are written, exceptions that are due. */
final class Check {
    private static int wrong = 0;

    private Check() {
    }

    interface Call {
        void run();
    }

    static void due(String call, long got, long want) {
        if (got != want) {
            wrong++;
            System.out.println(call + " answered " + got + ", due is " + want);
        }
    }

    static void due(String call, boolean got, boolean want) {
        due(call, got ? 1 : 0, want ? 1 : 0);
    }

    static void due(String call, String got, String want) {
        if (!got.equals(want)) {
            wrong++;
            System.out.println(call + ": " + got + ", due is " + want);
        }
    }

    /** An answer together with the whole ROW behind it. */
    static void due(CommandByTurns x, String call, long got, long want, long... row) {
        due(call, got, want);
        rowIs(x, call, row);
    }

    static void rowIs(CommandByTurns x, String call, long... row) {
        due("numbers of the row behind " + call, x.count(11), row.length);
        for (int i = 0; i < row.length && i < x.count(11); i++) {
            due("row(" + i + ") behind " + call, x.row(i), row[i]);
        }
    }

    static void noSuch(String call, Call c) {
        boolean thrown = false;
        try {
            c.run();
        } catch (NoSuchElementException e) {
            thrown = true;
        }
        due(call + " throws NoSuchElementException", thrown, true);
    }

    /** A number that a call takes from a first to a last one: those next to the bounds on either side, and the far ones. */
    static void range(String call, int first, int last, IntToLongFunction answer) {
        for (int n : new int[] {Integer.MIN_VALUE, first - 1, last + 1, Integer.MAX_VALUE}) {
            due(call + " with n " + n, answer.applyAsLong(n), CommandByTurns.NONE);
        }
        for (int n : new int[] {first, first + 1, last - 1, last}) {
            due(call + " with n " + n + " is refused", answer.applyAsLong(n) == CommandByTurns.NONE, false);
        }
    }

    /** Writes a text from nothing on. */
    static void write(CommandByTurns x, String text) {
        x.end(0);
        for (int i = 0; i < text.length(); i += 4) {
            int v = 0;
            for (int j = i; j < i + 4; j++) {
                v = v << 8 | (j < text.length() ? text.charAt(j) & 255 : 0);
            }
            x.sign(v);
        }
        x.end(text.length());
    }

    static int ground(CommandByTurns x, String ground) {
        write(x, ground);
        return x.ground();
    }

    static CommandByTurns on(String ground) {
        CommandByTurns x = new CommandByTurns();
        ground(x, ground);
        return x;
    }

    static int rule(CommandByTurns x, String rule) {
        write(x, rule);
        return x.rule();
    }

    static int wishes(CommandByTurns x, int consul, String wishes) {
        write(x, wishes);
        return x.wishes(consul);
    }

    static int war(CommandByTurns x, String war) {
        write(x, war);
        return x.war();
    }

    static void halts(CommandByTurns x, int n) {
        for (int i = 0; i < n; i++) {
            x.halt();
        }
    }

    /** Today and so many days on are nobody's. */
    static void bothSick(CommandByTurns x, int n) {
        x.sick(0, n);
        x.sick(1, n);
    }

    static void finish() {
        System.out.println(wrong == 0 ? "all answers are as due" : wrong + " answers are not as due");
        if (wrong != 0) {
            System.exit(1);
        }
    }
}
