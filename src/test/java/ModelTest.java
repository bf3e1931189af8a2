import java.lang.reflect.InvocationTargetException;
import java.lang.reflect.Method;
import java.util.ArrayList;
import java.util.Arrays;
import java.util.HashMap;
import java.util.List;
import java.util.Map;
import java.util.NoSuchElementException;
import java.util.Random;

/** Promises 1 to 49: runs of drawn calls, each answered by the class and by SlowModel, the ROW and all counts compared. */
public final class ModelTest {
    private static final int RUNS = 1500;
    private static final int CALLS = 120;
    private static final String[] NAMES = {"sign", "end", "ground", "wishes", "rule", "field", "consul", "set", "sheet",
        "whose", "march", "halt", "fight", "foe", "send", "lend", "sick", "war", "undo", "comes", "issue", "reach",
        "evening", "lasts", "feeds", "boldness", "arrives", "avoids", "safe", "forces", "offers", "bargain", "share",
        "command", "halves", "seen", "forget", "was", "sure", "ask", "rain", "stops", "rests", "years", "keep", "again",
        "count", "row"};
    private static final int[] EDGES = {Integer.MIN_VALUE, -13, -12, -1, 2, 4, 10, 11, 12, 13, 15, 16, 19, 20, 21, 30, 31,
        60, 61, 99, 100, 999, 1000, Integer.MAX_VALUE};
    /** Calls whose SlowModel tries all sets of so many days: drawn small, but for some. */
    private static final List<String> DEAR = List.of("share", "was", "sure", "ask");

    private static final Map<String, Method> METHODS = new HashMap<>();

    private final Random random;
    private final CommandByTurns real = new CommandByTurns();
    private final SlowModel slow = new SlowModel();
    private final List<String> log = new ArrayList<>();
    private Object lastReal;
    private Object lastSlow;

    private ModelTest(long seed) {
        random = new Random(seed);
    }

    public static void main(String[] args) throws ReflectiveOperationException {
        for (int run = 0; run < RUNS; run++) {
            new ModelTest(run).play(run);
        }
        Check.finish();
    }

    private void play(int run) throws ReflectiveOperationException {
        for (int i = 0; i < CALLS; i++) {
            int draw = random.nextInt(NAMES.length + 10);
            if (draw < 3) {
                call("march", random.nextInt(9) - 4);
            } else if (draw < 9) {
                writeAndRead();
            } else if (draw == 9) {
                call("foe", random.nextInt(12));
            } else {
                String name = NAMES[draw - 10];
                call(name, arguments(name));
            }
            if (differs()) {
                Check.due("run " + run + " " + log, 0, 1);
                return;
            }
        }
    }

    /** How many values of each argument are right ones (from 0 on), but for the edges, which wild draws bring. */
    private static int[] ranges(String name) {
        switch (name) {
            case "end":
                return new int[] {9};
            case "wishes":
            case "reach":
            case "keep":
            case "again":
                return new int[] {2};
            case "field":
                return new int[] {12, 4};
            case "consul":
                return new int[] {2, 5};
            case "set":
                return new int[] {2, 2, 10};
            case "sheet":
                return new int[] {4, 13, 300, 12};
            case "send":
                return new int[] {3, 1000};
            case "sick":
            case "comes":
                return new int[] {2, 31};
            case "issue":
                return new int[] {12, 31};
            case "lend":
            case "feeds":
                return new int[] {100};
            case "avoids":
            case "safe":
                return new int[] {21};
            case "offers":
            case "command":
                return new int[] {31};
            case "seen":
                return new int[] {20, 6};
            case "share":
                return new int[] {11};
            case "was":
            case "sure":
            case "ask":
                return new int[] {11, 4};
            case "rain":
            case "stops":
                return new int[] {13, 11};
            case "forces":
                return new int[] {11};
            default:
                return new int[] {13};
        }
    }

    private Object[] arguments(String name) {
        Object[] args = new Object[method(CommandByTurns.class, name).getParameterCount()];
        int[] ranges = ranges(name);
        for (int i = 0; i < args.length; i++) {
            if (random.nextInt(15) == 0) {
                args[i] = EDGES[random.nextInt(EDGES.length)];
            } else {
                args[i] = random.nextInt(ranges[Math.min(i, ranges.length - 1)]);
            }
        }
        if (name.equals("sign") || name.equals("years")) {
            args[0] = random.nextInt();
        }
        if (name.equals("years")) {
            args[1] = random.nextInt(62);
        }
        boolean isHundredfold = DEAR.contains(name) && (int) args[0] > 10;
        return isHundredfold && random.nextInt(20) > 0 ? arguments(name) : args;
    }

    private void writeAndRead() throws ReflectiveOperationException {
        int what = random.nextInt(4);
        String text = what == 0 ? drawnGround() : what == 1 ? drawnDigits(random.nextInt(23)) : what == 2 ? drawnRule()
                : drawnWar();
        if (random.nextInt(4) == 0 && !text.isEmpty()) {
            int p = random.nextInt(text.length());
            String odd = "0~9(-)<=>+*/bwhxlfan ";
            char c = random.nextInt(8) == 0 ? (char) random.nextInt(256) : odd.charAt(random.nextInt(odd.length()));
            text = text.substring(0, p) + c + text.substring(random.nextBoolean() ? p : p + 1);
        }
        text = text.length() > 80 ? text.substring(0, 80) : text;
        call("end", 0);
        for (int i = 0; i < text.length(); i += 4) {
            int v = 0;
            for (int j = i; j < i + 4; j++) {
                v = v << 8 | (j < text.length() ? text.charAt(j) : 0);
            }
            call("sign", v);
        }
        call("end", text.length());
        log.add("\"" + text + "\"");
        if (what == 0) {
            call("ground");
        } else if (what == 1) {
            call("wishes", random.nextInt(20) == 0 ? 2 : random.nextInt(2));
        } else {
            call(what == 2 ? "rule" : "war");
        }
    }

    private String drawnDigits(int n) {
        StringBuilder s = new StringBuilder();
        for (int i = 0; i < n; i++) {
            s.append((char) ('0' + random.nextInt(10)));
        }
        return s.toString();
    }

    private String drawnGround() {
        int rivers = random.nextInt(5);
        StringBuilder s = new StringBuilder(drawnDigits(1));
        for (int n = random.nextInt(13); n > 0; n--) {
            s.append(random.nextInt(5) < rivers ? "~" : "").append(drawnDigits(1));
        }
        return s.toString();
    }

    private String drawnRule() {
        if (random.nextInt(8) == 0) {
            return "";
        }
        // rules in which the day turns the battle make the rules of command differ
        String byDay = "b*(d" + "<>=".charAt(random.nextInt(3)) + drawnDigits(1) + ")-b*(d=" + drawnDigits(1) + ")";
        return random.nextInt(4) == 0 ? byDay : drawnExpression(random.nextInt(5));
    }

    private String drawnExpression(int depth) {
        StringBuilder s = new StringBuilder(drawnThing(depth));
        boolean compared = false;
        for (int n = random.nextInt(4); n > 0; n--) {
            char c = "+-*/<>=".charAt(random.nextInt(compared ? 4 : 7));
            compared |= "<>=".indexOf(c) >= 0;
            s.append(c).append(drawnThing(depth));
        }
        return s.toString();
    }

    private String drawnThing(int depth) {
        String minus = random.nextInt(6) == 0 ? "-".repeat(1 + random.nextInt(3)) : "";
        int kind = random.nextInt(5);
        if (kind == 0) {
            return minus + drawnDigits(1 + random.nextInt(3));
        }
        return minus + (kind > 2 && depth > 0 ? "(" + drawnExpression(depth - 1) + ")"
                : "" + "blhmefdw".charAt(random.nextInt(8)));
    }

    private String drawnWar() {
        StringBuilder s = new StringBuilder();
        int most = random.nextInt(8) == 0 ? 70 : 12;
        for (int n = random.nextInt(most); n > 0; n--) {
            String act = "hhxl><f".charAt(random.nextInt(7)) + "";
            s.append(act);
            if (act.equals(">") || act.equals("<")) {
                s.append(1 + random.nextInt(random.nextInt(4) == 0 ? 9 : 2));
            } else if (act.equals("f")) {
                s.append("0123456789ab".charAt(random.nextInt(random.nextBoolean() ? 12 : 3)));
            }
        }
        return s.toString();
    }

    private static Method method(Class<?> c, String name) {
        return METHODS.computeIfAbsent(c.getName() + "." + name, key -> {
            for (Method m : c.getDeclaredMethods()) {
                if (m.getName().equals(name)) {
                    m.setAccessible(true);
                    return m;
                }
            }
            throw new IllegalStateException(name);
        });
    }

    private static Object answer(Object o, String name, Object... args) throws ReflectiveOperationException {
        Method m = method(o.getClass(), name);
        try {
            return m.invoke(o, args);
        } catch (InvocationTargetException e) {
            if (e.getCause() instanceof NoSuchElementException) {
                return "throws";
            }
            throw e;
        }
    }

    private void call(String name, Object... args) throws ReflectiveOperationException {
        lastReal = answer(real, name, args);
        lastSlow = answer(slow, name, args);
        log.add(name + Arrays.toString(args) + " -> " + lastReal
                + (lastReal.equals(lastSlow) ? "" : " due is " + lastSlow));
    }

    private boolean differs() {
        boolean differs = !lastReal.equals(lastSlow);
        for (int what = 0; what <= 12; what++) {
            differs |= real.count(what) != slow.count(what);
        }
        for (int i = 0; i < slow.row.size() && !differs; i++) {
            differs = real.row(i) != slow.row(i);
        }
        for (int f = 0; f < real.count(0) && !differs; f++) {
            differs = real.field(f, 0) != slow.field(f, 0) || real.field(f, 1) != slow.field(f, 1);
        }
        for (int c = 0; c < 2 && !differs; c++) {
            for (int what = 0; what < 5; what++) {
                differs |= real.consul(c, what) != slow.consul(c, what);
            }
        }
        return differs;
    }
}
