/** Promises 1 to 10: each sentence at its boundaries. */
public final class GroundEdgesTest {
    private static final String ONES = "1+1+1+1+1+1+1+1+1+1+1+1+1+1+1+1+1+1+1+1+1+1";

    public static void main(String[] args) {
        aNewObject();
        signsUpToEighty();
        signsByBytes();
        endAtItsBounds();
        grounds();
        groundThatCantBeRead();
        groundAnew();
        wishesOfOneToTwenty();
        wishesByDays();
        rulesUpToForty();
        rulesThatCanBeRead();
        rulesThatCantBeRead();
        rulesStayOrGo();
        fields();
        consuls();
        sicknessTold();
        boldAndLiked();
        sheetsByNumber();
        sheetsByKind();
        sheetsRefused();
        Check.finish();
    }

    /** Promise 1: "The ground 00; two consuls, an army, a foe." */
    private static void aNewObject() {
        CommandByTurns x = new CommandByTurns();
        int[] counts = {2, 0, 0, 1, 900, 900, 500, 0, 1, 0, 0, 0, 0};
        for (int what = 0; what < counts.length; what++) {
            Check.due("count(" + what + ") of a new object", x.count(what), counts[what]);
        }
        int[][] consuls = {{9, 5, 4, -1, 0}, {3, 5, 2, -1, 0}};
        for (int c = 0; c < 2; c++) {
            for (int what = 0; what < 5; what++) {
                Check.due("consul(" + c + ", " + what + ") at first", x.consul(c, what), consuls[c][what]);
            }
        }
        int[][] fields = {{0, 0, 1, 0}, {0, 0, 0, 1}};
        for (int f = 0; f < 2; f++) {
            for (int what = 0; what < 4; what++) {
                Check.due("field(" + f + ", " + what + ") at first", x.field(f, what), fields[f][what]);
            }
        }
        Check.due("nothing can be undone", x.undo(), -1);
        Check.due("nothing is kept under 0", x.again(0), false);
        Check.due("nothing is kept under 1", x.again(1), false);
        Check.due("objects are apart", two(), 2);
        Check.due("NONE", CommandByTurns.NONE, -1);
    }

    private static int two() {
        CommandByTurns x = new CommandByTurns();
        CommandByTurns y = new CommandByTurns();
        Check.ground(x, "123");
        x.foe(0);
        x.set(0, 0, 1);
        Check.due("the other one's consul", y.consul(0, 0), 9);
        Check.due("the other one's foe", y.count(3), 1);
        return y.count(0);
    }

    /** Promise 2: "Refused: there would be more than 80." */
    private static void signsUpToEighty() {
        for (int ahead = 75; ahead <= 80; ahead++) {
            CommandByTurns x = new CommandByTurns();
            Check.write(x, "7".repeat(ahead));
            boolean fits = ahead <= 76;
            Check.due("sign() behind " + ahead, x.sign(0x37373737), fits ? ahead + 4 : -1);
            Check.due("signs then", x.count(12), fits ? ahead + 4 : ahead);
        }
        Twin.refused("sign() behind 77", () -> withText("7".repeat(77)), x -> x.sign(0), -1);
        Twin.refused("sign() behind 80", () -> withText("7".repeat(80)), x -> x.sign(-1), -1);
    }

    private static CommandByTurns withText(String text) {
        CommandByTurns x = Twin.busy();
        Check.write(x, text);
        return x;
    }

    /** Promise 2: "Four signs come behind THE TEXT, of v the highest byte first". */
    private static void signsByBytes() {
        CommandByTurns x = new CommandByTurns();
        Check.due("four signs", x.sign(0x31323334), 4);
        Check.due("eight signs", x.sign(0x35363738), 8);
        Check.due("eight fields", x.ground(), 8);
        for (int f = 0; f < 8; f++) {
            Check.due("in their order", x.field(f, 0), f + 1);
        }
        int[] odd = {0xFF313131, 0x31FF3131, 0x3131FF31, 0x313131FF};
        int[] like = {0x00313131, 0x31B13131, 0x31317E7E, 0x31313180};
        int[] likeAt = {0, 1, 3, 3};
        for (int i = 0; i < 4; i++) {
            CommandByTurns y = new CommandByTurns();
            y.sign(odd[i]);
            Check.due("sign 255 at " + i, y.ground(), -1 - i);
            y.sign(like[i]);
            Check.due("a sign that is no digit", y.ground(), -1 - likeAt[i]);
        }
        x.sign(0x31320000);
        x.end(2);
        x.sign(0x33340000);
        Check.due("behind what is left", x.count(12), 6);
        x.end(4);
        Check.due("1234", x.ground(), 4);
        Check.due("3", x.field(2, 0), 3);
    }

    /** Promise 3: "THE TEXT has its first n signs alone: true; false if it has not so many, or n is below 0." */
    private static void endAtItsBounds() {
        CommandByTurns x = new CommandByTurns();
        Check.due("end(0) of none", x.end(0), true);
        Check.due("end(1) of none", x.end(1), false);
        Check.due("end(-1) of none", x.end(-1), false);
        x.sign(0x31323334);
        Check.due("end(5) of four", x.end(5), false);
        Check.due("end(-1) of four", x.end(-1), false);
        Check.due("end(MIN)", x.end(Integer.MIN_VALUE), false);
        Check.due("end(MAX)", x.end(Integer.MAX_VALUE), false);
        Check.due("four signs still", x.count(12), 4);
        Check.due("end(4) of four", x.end(4), true);
        Check.due("four signs still", x.count(12), 4);
        Check.due("end(3) of four", x.end(3), true);
        Check.due("three signs", x.count(12), 3);
        Check.due("the fourth is gone", x.end(4), false);
        Check.due("the first three", x.ground(), 3);
        for (int f = 0; f < 3; f++) {
            Check.due("the first three", x.field(f, 0), f + 1);
        }
        Twin.refused("end(3) of two", y -> y.end(3) ? 1 : -1);
        Twin.refused("end(-1)", y -> y.end(-1) ? 1 : -1);
    }

    /** Promise 4: "-1 - p: the sign at p can't stand there". */
    private static void grounds() {
        Object[][] grounds = {{"12", 2}, {"1~2", 2}, {"1~23", 3}, {"12~3", 3}, {"123456789012", 12},
            {"", -1}, {"1", -2}, {"~", -1}, {"~12", -1}, {"1~", -3}, {"12~", -4}, {"1~2~", -5}, {"1~~2", -3}, {"12~~3", -4},
            {"x12", -1}, {"1x2", -2}, {"12x", -3}, {"1~x", -3}, {"1~2x", -4}, {"-12", -1}, {"1 2", -2},
            {"1234567890123", -13}, {"12345678901234", -13}, {"123456789012x", -13}, {"123456789012~", -14},
            {"123456789012~3", -14}, {"123456789012~x", -14}, {"123456789012~~", -14}, {"12345678901~23", -14},
            {"1~2~3~4~5~6~7~8~9~0~1~23", -24}, {"1~2~3~4~5~6~7~8~9~0~1~2~3", -25}, {"1\u0000", -2}, {"\u00ff1", -1}};
        for (Object[] g : grounds) {
            CommandByTurns x = Check.on("345");
            Check.due("ground() of " + g[0], Check.ground(x, (String) g[0]), (int) g[1]);
            Check.due("fields behind " + g[0], x.count(0), (int) g[1] < 0 ? 3 : (int) g[1]);
            Check.due("the text is empty behind " + g[0], x.count(12), 0);
        }
    }

    /** Promise 4 and Terms 2: "Refused calls .. change nothing but THE TEXT". */
    private static void groundThatCantBeRead() {
        String[] texts = {"", "1", "1~", "1234567890123", "12x"};
        int[] answers = {-1, -2, -3, -13, -3};
        for (int i = 0; i < texts.length; i++) {
            Twin.unread("ground() of " + texts[i], texts[i], x -> x.ground(), answers[i]);
        }
    }

    /** Promise 4: "the army is at FIELD 0, the foe at the last one, nothing can be undone, nothing is kept". */
    private static void groundAnew() {
        String[] grounds = {"79", "7~98765", "123456789012"};
        for (String g : grounds) {
            CommandByTurns x = Twin.busy();
            Check.due("the army is not at 0", x.count(2), 4);
            int men = x.count(4);
            int food = x.count(6);
            int fields = Check.ground(x, g);
            Check.due("the army is at 0", x.count(2), 0);
            Check.due("the foe is at the last one", x.count(3), fields - 1);
            Check.due("nothing can be undone", x.count(10), 0);
            Check.due("nothing can be undone", x.undo(), -1);
            Check.due("nothing is kept under 0", x.again(0), false);
            Check.due("nothing is kept under 1", x.again(1), false);
            Check.due("height of 0", x.field(0, 0), g.charAt(0) - '0');
            Check.due("river behind 0", x.field(0, 1), g.charAt(1) == '~' ? 1 : 0);
            Check.due("no river behind the last", x.field(fields - 1, 1), 0);
            Check.due("the day goes on", x.count(1), 2);
            Check.due("men", x.count(4), men);
            Check.due("food", x.count(6), food);
            Check.due("lent days", x.count(7), 2);
            Check.due("sickness", x.consul(1, 3), 3);
            Check.due("what was seen", x.count(9), 12);
            Check.due("the wish", x.consul(0, 4), 3);
            Check.due("kept anew", x.keep(0), true);
            Check.due("again", x.again(0), true);
            Check.due("the other number is not", x.again(1), false);
        }
    }

    /** Promise 5: "1 to 20 digits", "-100: no such consul (asked first)", "its end for none; a twenty-first sign: at it". */
    private static void wishesOfOneToTwenty() {
        String twenty = "98765432109876543210";
        Object[][] texts = {{"", -1}, {"0", 1}, {"9", 1}, {"12", 2}, {twenty.substring(1), 19}, {twenty, 20},
            {twenty + "1", -21}, {twenty + "x", -21}, {twenty + "12", -21}, {twenty.repeat(4), -21}, {"x", -1}, {"1x", -2},
            {"x1", -1}, {twenty.substring(1) + "x", -20}, {twenty.substring(1) + "x1", -20}, {"1/", -2}, {"1:", -2},
            {"-1", -1}, {"1~2", -2}};
        for (Object[] t : texts) {
            CommandByTurns x = new CommandByTurns();
            Check.wishes(x, 1, "77");
            Check.due("wishes() of " + t[0], Check.wishes(x, 1, (String) t[0]), (int) t[1]);
            Check.due("the text is empty behind " + t[0], x.count(12), 0);
            int due = (int) t[1] < 0 ? 7 : ((String) t[0]).charAt(0) - '0';
            Check.due("today's wish behind " + t[0], x.consul(1, 4), due);
            Check.due("the other one has none", x.consul(0, 4), 0);
        }
        for (int c : new int[] {Integer.MIN_VALUE, -1, 2, Integer.MAX_VALUE}) {
            Twin.unread("wishes(" + c + ")", "12", x -> x.wishes(c), -100);
            Twin.unread("wishes(" + c + ") of none", "", x -> x.wishes(c), -100);
            Twin.unread("wishes(" + c + ") of what can't be read", "x", x -> x.wishes(c), -100);
        }
        Twin.unread("wishes() of none", "", x -> x.wishes(0), -1);
        Twin.unread("wishes() of 21", twenty + "1", x -> x.wishes(1), -21);
    }

    /** Promise 5: "what each of the DAYS from now on is worth to it, others 0". */
    private static void wishesByDays() {
        CommandByTurns x = new CommandByTurns();
        x.halt();
        Check.wishes(x, 0, "12345678901234567895");
        x.undo();
        Check.due("the day ahead of the first", x.consul(0, 4), 0);
        x.halt();
        Check.due("the first day", x.consul(0, 4), 1);
        Check.halts(x, 1);
        Check.due("the second day", x.consul(0, 4), 2);
        Check.halts(x, 17);
        Check.due("the nineteenth day", x.consul(0, 4), 9);
        x.halt();
        Check.due("the twentieth day", x.consul(0, 4), 5);
        x.halt();
        Check.due("the day behind the last", x.consul(0, 4), 0);
        Check.wishes(x, 0, "67");
        Check.due("told anew", x.consul(0, 4), 6);
        Check.halts(x, 2);
        Check.due("fewer than before: the others are 0", x.consul(0, 4), 0);
    }

    /** Promise 6: "its end, if it ends too early; 40, if it has more and the first 40 could go on or end". */
    private static void rulesUpToForty() {
        String thirtyNine = ONES.substring(0, 39);
        String forty = ONES.substring(0, 38) + "11";
        Object[][] rules = {{ONES.substring(0, 38), -39}, {thirtyNine, 0}, {ONES.substring(0, 40), -41}, {forty, 0},
            {ONES.substring(0, 41), -41}, {forty + "1", -41}, {forty + "+", -41}, {forty + "x", -41}, {thirtyNine + "x", -40},
            {thirtyNine + "x1", -40}, {thirtyNine + ")", -40}, {thirtyNine + ")1", -40}, {"x" + forty, -1},
            {"-".repeat(38) + "b", 0}, {"-".repeat(39) + "b", 0}, {"-".repeat(40) + "b", -41}, {"-".repeat(39), -40},
            {"-".repeat(40), -41}, {"-".repeat(41), -41}, {"-".repeat(80), -41}, {"(" + "-".repeat(38) + "1", -41},
            {"(" + "-".repeat(37) + "1)", 0}, {"(" + "-".repeat(38) + "1)", -41}, {"-".repeat(37) + "123", 0},
            {"-".repeat(37) + "1234", -41}, {"-".repeat(36) + "1234", -40}, {"-".repeat(36) + "12345", -40},
            {"-".repeat(38) + "(1)", -41}, {"-".repeat(37) + "(1)", 0}, {"-".repeat(38) + "1)1", -40}};
        for (Object[] r : rules) {
            CommandByTurns x = new CommandByTurns();
            Check.rule(x, "7");
            Check.due("rule() of " + r[0], Check.rule(x, (String) r[0]), (int) r[1]);
            Check.due("the text is empty", x.count(12), 0);
            Check.due("the rule was 7 and is it still", x.issue(0, 0) == 508, (int) r[1] < 0);
        }
    }

    private static void rulesThatCanBeRead() {
        String[] rules = {"0", "9", "12", "123", "000", "b", "l", "h", "m", "e", "f", "d", "w", "(b)", "((b))", "(((b)))",
            "((((b))))", "((((1))))+((((1))))", "((((1)+(1))))", "(((1)+((1))))", "-b", "--b", "-(b)", "-(-b)", "b--b",
            "b*-b", "b<-b", "b<l", "(b<l)<h", "b<(l<h)", "(b<l)=(h>m)", "((b<l)<h)<m", "(1=1)+(2=2)", "b+l<h-m", "1+2*3/4-5",
            "123+456-789*100/999", "(12)-(34)", "1<2+3*4/5-6"};
        for (String r : rules) {
            Check.due("rule() of " + r, Check.rule(new CommandByTurns(), r), 0);
        }
    }

    /** Promise 6: "-1 - p: the sign at p can't stand there". */
    private static void rulesThatCantBeRead() {
        Object[][] rules = {{"1234", -4}, {"0000", -4}, {"1+2345", -6}, {"(1234)", -5}, {"12a", -3}, {"12b", -3}, {"b1", -2},
            {"bl", -2}, {"1(", -2}, {"b(1)", -2}, {"(1)1", -4}, {"(1)b", -4}, {"(1)(1)", -4}, {"(((((1)))))", -5},
            {"((((1+(1", -7}, {"((((-(", -6}, {"1<2<3", -4}, {"1<2=3", -4}, {"1>2+3=4", -6}, {"(1<2<3)", -5},
            {"(1<2)<3>4", -8}, {"1<(2<3)<4", -8}, {"(1<2)+3=4>5", -10}, {"1<<2", -3}, {"1=>2", -3}, {"<1", -1}, {"1<", -3},
            {"+1", -1}, {"*1", -1}, {"/1", -1}, {"=1", -1}, {"1+", -3}, {"1-", -3}, {"1*", -3}, {"1/", -3}, {"1-+1", -3},
            {"1+*1", -3}, {"-+1", -2}, {"-*1", -2}, {"-", -2}, {"--", -3}, {"()", -2}, {"(", -2}, {"((", -3}, {"((((", -5},
            {")", -1}, {"1)", -2}, {"(1", -3}, {"(1+", -4}, {"(1))", -4}, {"(1+)", -4}, {"(-)", -3}, {"a", -1}, {"c", -1},
            {"g", -1}, {"i", -1}, {"k", -1}, {"n", -1}, {"v", -1}, {"x", -1}, {"B", -1}, {" 1", -1}, {"1 ", -2}, {"1 +1", -2},
            {"\u0000", -1}, {"b\u00ff", -2}, {"1,2", -2}, {"1.2", -2}, {"1;", -2}, {"1%2", -2}, {"1:", -2}, {"1?", -2},
            {"@", -1}};
        for (Object[] r : rules) {
            CommandByTurns x = new CommandByTurns();
            Check.due("rule() of " + r[0], Check.rule(x, (String) r[0]), (int) r[1]);
            Check.due("the text is empty", x.count(12), 0);
        }
        Twin.unread("rule() of b+", "b+", x -> x.rule(), -3);
        Twin.unread("rule() of x", "x", x -> x.rule(), -1);
        Twin.unread("rule() of 41 signs", ONES.substring(0, 41), x -> x.rule(), -41);
    }

    /** Promise 6: "an empty one: none". */
    private static void rulesStayOrGo() {
        CommandByTurns x = new CommandByTurns();
        Check.rule(x, "123");
        Check.due("told", x.issue(0, 0), 501 + 123);
        Check.due("one that can't be read", Check.rule(x, "5+"), -3);
        Check.due("as it was", x.issue(0, 0), 501 + 123);
        Check.due("a shorter one", Check.rule(x, "4"), 0);
        Check.due("the shorter one alone", x.issue(0, 0), 505);
        Check.due("an empty one", Check.rule(x, ""), 0);
        Check.due("none", x.issue(0, 0), 531);
        Check.due("rule() can't be undone", x.count(10), 0);
    }

    /** Promise 7: "NoSuchElementException: none such, another what." */
    private static void fields() {
        CommandByTurns x = Check.on("9~0");
        int[][] dues = {{9, 1, 1, 0}, {0, 0, 0, 1}};
        for (int f = 0; f < 2; f++) {
            for (int what = 0; what < 4; what++) {
                Check.due("field(" + f + ", " + what + ")", x.field(f, what), dues[f][what]);
            }
        }
        x.foe(0);
        Check.due("the army in the foe's field", x.field(0, 2), 1);
        Check.due("the foe in the army's field", x.field(0, 3), 1);
        Check.due("nobody in the other one", x.field(1, 2) + x.field(1, 3), 0);
        Check.noSuch("field(2, 0) of two", () -> x.field(2, 0));
        Check.ground(x, "12345678901~2");
        Check.due("the last of twelve", x.field(11, 0), 2);
        Check.due("a river behind the eleventh", x.field(10, 1), 1);
        Check.due("none behind the twelfth", x.field(11, 1), 0);
        Check.noSuch("field(12, 0) of twelve", () -> x.field(12, 0));
        int[] bad = {Integer.MIN_VALUE, -1, 6, 7, 12, Integer.MAX_VALUE};
        for (int f : bad) {
            Twin.throwsNoSuch("field(" + f + ", 0)", y -> y.field(f, 0));
            Twin.throwsNoSuch("field(" + f + ", 3)", y -> y.field(f, 3));
        }
        for (int what : new int[] {Integer.MIN_VALUE, -1, 4, 5, Integer.MAX_VALUE}) {
            Twin.throwsNoSuch("field(0, " + what + ")", y -> y.field(0, what));
            Twin.throwsNoSuch("field(5, " + what + ")", y -> y.field(5, what));
            Twin.throwsNoSuch("field(6, " + what + ")", y -> y.field(6, what));
        }
    }

    /** Promise 8: "NoSuchElementException: likewise." */
    private static void consuls() {
        for (int c : new int[] {Integer.MIN_VALUE, -1, 2, Integer.MAX_VALUE}) {
            for (int what = 0; what <= 4; what++) {
                int asked = what;
                Twin.throwsNoSuch("consul(" + c + ", " + what + ")", x -> x.consul(c, asked));
            }
        }
        for (int what : new int[] {Integer.MIN_VALUE, -1, 5, 6, Integer.MAX_VALUE}) {
            Twin.throwsNoSuch("consul(0, " + what + ")", x -> x.consul(0, what));
            Twin.throwsNoSuch("consul(1, " + what + ")", x -> x.consul(1, what));
            Twin.throwsNoSuch("consul(2, " + what + ")", x -> x.consul(2, what));
        }
    }

    /** Promise 8: "3: the last DAY on which it is sick (NONE)". */
    private static void sicknessTold() {
        CommandByTurns x = new CommandByTurns();
        Check.due("never sick", x.consul(0, 3), -1);
        x.sick(0, 1);
        Check.due("sick today alone", x.consul(0, 3), 0);
        Check.due("the other one is not", x.consul(1, 3), -1);
        x.halt();
        x.sick(1, 30);
        Check.due("thirty days from day 1 on", x.consul(1, 3), 30);
        x.undo();
        Check.due("undone: not sick", x.consul(1, 3), -1);
    }

    /** Promise 9: "BOLD (what 0), LIKED (1) of a consul becomes v (0 .. 9): what it was. Refused: others." */
    private static void boldAndLiked() {
        int[][] first = {{9, 5}, {3, 5}};
        for (int c = 0; c < 2; c++) {
            for (int what = 0; what < 2; what++) {
                CommandByTurns x = new CommandByTurns();
                String call = "set(" + c + ", " + what + ", ..)";
                Check.due(call, x.set(c, what, 0), first[c][what]);
                Check.due(call, x.set(c, what, 1), 0);
                Check.due(call, x.set(c, what, 8), 1);
                Check.due(call, x.set(c, what, 9), 8);
                Check.due("told by consul()", x.consul(c, what), 9);
                Check.due("the other number", x.consul(c, 1 - what), first[c][1 - what]);
                Check.due("the other one's", x.consul(1 - c, what), first[1 - c][what]);
                Check.due("it can't be undone", x.count(10), 0);
            }
        }
        int[][] wrong = {{-1, 0, 5}, {2, 0, 5}, {-1, 1, 5}, {2, 1, 5}, {0, -1, 5}, {0, 2, 5}, {1, -1, 5}, {1, 2, 5},
            {0, 0, -1}, {0, 0, 10}, {1, 0, -1}, {1, 0, 10}, {0, 1, -1}, {0, 1, 10}, {1, 1, -1}, {1, 1, 10},
            {0, 0, Integer.MIN_VALUE}, {0, 0, Integer.MAX_VALUE}, {Integer.MAX_VALUE, 0, 5}, {0, Integer.MIN_VALUE, 5}};
        for (int[] w : wrong) {
            Twin.refused("set(" + w[0] + ", " + w[1] + ", " + w[2] + ")", x -> x.set(w[0], w[1], w[2]));
        }
    }

    /** Promise 10: "of n entries ..: those behind it have 0: the sum of all". */
    private static void sheetsByNumber() {
        int[] sums = {0, 7, 14, 21, 21, 21};
        int[] numbers = {0, 1, 2, 3, 4, 12};
        for (int i = 0; i < numbers.length; i++) {
            for (int kind = 0; kind <= 2; kind++) {
                CommandByTurns x = Check.on("9~99");
                Check.due("sheet of " + numbers[i] + " entries", x.sheet(kind, numbers[i], 7, 0), sums[i]);
                for (int f = 0; f < 3; f++) {
                    Check.due("height of " + f, x.field(f, 0), f < numbers[i] ? 7 : 0);
                }
                Check.due("rivers stay", x.field(0, 1), 1);
                Check.due("the army stays", x.count(2), 0);
                Check.due("it can't be undone", x.count(10), 0);
            }
        }
        CommandByTurns y = Check.on("111111111111");
        Check.due("eleven of twelve", y.sheet(2, 11, 9, 0), 99);
        Check.due("the last has 0", y.field(11, 0), 0);
        Check.due("twelve of twelve", y.sheet(2, 12, 9, 0), 108);
        Check.due("the last has 9", y.field(11, 0), 9);
    }

    /** Promise 10: "of bytes, shorts the lowest bits, with their sign; put to 0 .. 9". */
    private static void sheetsByKind() {
        int max = Integer.MAX_VALUE;
        int min = Integer.MIN_VALUE;
        int[][] sheets = {{2, -1, 1, 0, 0, 1}, {2, 8, 1, 8, 9, 9}, {2, 10, -1, 9, 9, 8}, {2, 1, -1, 1, 0, 0},
            {2, max, 1, 9, 0, 0}, {2, min, -1, 0, 9, 9}, {2, max - 1, 1, 9, 9, 0}, {2, 256, 0, 9, 9, 9}, {2, 65536, 0, 9, 9, 9},
            {2, 3, min, 3, 0, 3}, {0, 126, 1, 9, 9, 0}, {0, 127, 1, 9, 0, 0}, {0, 128, -1, 0, 9, 9}, {0, 254, 1, 0, 0, 0},
            {0, 255, 1, 0, 0, 1}, {0, 256, 1, 0, 1, 2}, {0, 260, 256, 4, 4, 4}, {0, -1, 1, 0, 0, 1}, {0, -128, -1, 0, 9, 9},
            {0, -252, 0, 4, 4, 4}, {0, max, 1, 0, 0, 1}, {1, 32766, 1, 9, 9, 0}, {1, 32767, 1, 9, 0, 0}, {1, 32768, -1, 0, 9, 9},
            {1, 65535, 1, 0, 0, 1}, {1, 65536, 1, 0, 1, 2}, {1, 65540, 65536, 4, 4, 4}, {1, 255, 1, 9, 9, 9},
            {1, 260, 0, 9, 9, 9}, {1, -32768, -1, 0, 9, 9}, {1, -65532, 0, 4, 4, 4}, {1, min, 1, 0, 1, 2}};
        for (int[] s : sheets) {
            CommandByTurns x = Check.on("555");
            String call = "sheet(" + s[0] + ", 3, " + s[1] + ", " + s[2] + ")";
            Check.due(call, x.sheet(s[0], 3, s[1], s[2]), s[3] + s[4] + s[5]);
            for (int f = 0; f < 3; f++) {
                Check.due("height of " + f + " behind " + call, x.field(f, 0), s[3 + f]);
            }
        }
    }

    /** Promise 10: "-2: n below 0 (of kinds 0 .. 2; nothing changes); -3: missing (all 0). NONE: .. (these first)." */
    private static void sheetsRefused() {
        for (int kind = 0; kind <= 2; kind++) {
            int asked = kind;
            Twin.refused("n -1", Twin::busy, x -> x.sheet(asked, -1, 5, 1), -2);
            Twin.refused("n MIN", Twin::busy, x -> x.sheet(asked, Integer.MIN_VALUE, 5, 1), -2);
            Twin.refused("n 13", x -> x.sheet(asked, 13, 5, 1));
            Twin.refused("n MAX", x -> x.sheet(asked, Integer.MAX_VALUE, 5, 1));
        }
        for (int kind : new int[] {Integer.MIN_VALUE, -1, 4, 5, Integer.MAX_VALUE}) {
            for (int n : new int[] {-1, 0, 3, 12, 13}) {
                Twin.refused("sheet(" + kind + ", " + n + ", 5, 1)", x -> x.sheet(kind, n, 5, 1));
            }
        }
        Twin.refused("a missing one of 13", x -> x.sheet(3, 13, 5, 1));
        for (int n : new int[] {Integer.MIN_VALUE, -1, 0, 1, 12}) {
            CommandByTurns x = Check.on("987");
            Check.due("a missing one of " + n, x.sheet(3, n, 5, 1), -3);
            Check.due("all 0", x.field(0, 0) + x.field(1, 0) + x.field(2, 0), 0);
            Check.due("the fields stay", x.count(0), 3);
        }
    }
}
