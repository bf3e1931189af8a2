import java.math.BigInteger;
import java.util.ArrayDeque;
import java.util.ArrayList;
import java.util.Arrays;
import java.util.Collections;
import java.util.HashMap;
import java.util.List;
import java.util.Map;
import java.util.NoSuchElementException;
import java.util.TreeSet;

/**
 * The document once more, written apart from the class and by trying everything (lists, sets, recursion over texts),
 * so that a slip in one of the two shows. Speed and memory do not matter here.
 */
final class SlowModel {
    static final class State {
        int day;
        int army;
        int foe = 1;
        int men = 900;
        int foeMen = 900;
        int food = 500;
        TreeSet<Integer> lent = new TreeSet<>();
        int[] sick = {-1, -1};

        State twin() {
            State s = new State();
            s.day = day;
            s.army = army;
            s.foe = foe;
            s.men = men;
            s.foeMen = foeMen;
            s.food = food;
            s.lent = new TreeSet<>(lent);
            s.sick = sick.clone();
            return s;
        }

        int who(int d) {
            List<Integer> order = new ArrayList<>(List.of(d % 2, 1 - d % 2));
            if (lent.contains(d)) {
                Collections.reverse(order);
            }
            for (int c : order) {
                if (d > sick[c]) {
                    return c;
                }
            }
            return -1;
        }

        void night() {
            int need = 1 + men / 100;
            if (need > food) {
                men = men - men / 10;
                food = 0;
            } else {
                food = food - need;
            }
            day = day + 1;
        }

        void battle(int issue) {
            if (issue > 0) {
                foeMen -= issue;
                men -= issue / 3;
            } else {
                men -= -issue;
                foeMen -= -issue / 3;
            }
            foeMen = foeMen < 0 ? 0 : foeMen;
            men = men < 0 ? 0 : men;
        }
    }

    /** A text that goes wrong at a sign. */
    static final class Wrong extends RuntimeException {
        private static final long serialVersionUID = 1L;
        final int at;

        Wrong(int at) {
            this.at = at;
        }
    }

    /** Reads and works out an expression at once, from the left. */
    static final class Reader {
        final String s;
        final Map<Character, Integer> things;
        int p;
        int depth;

        Reader(String s, Map<Character, Integer> things) {
            this.s = s;
            this.things = things;
        }

        char next() {
            return p < s.length() ? s.charAt(p) : '\uffff';
        }

        int whole() {
            int v = expression();
            if (p < s.length()) {
                throw new Wrong(p);
            }
            return v;
        }

        int expression() {
            int a = sum();
            char c = next();
            if (c != '<' && c != '>' && c != '=') {
                return a;
            }
            p++;
            int b = sum();
            return (c == '<' ? a < b : c == '>' ? a > b : a == b) ? 1 : 0;
        }

        int sum() {
            int a = product();
            while (next() == '+' || next() == '-') {
                char c = next();
                p++;
                int b = product();
                a = c == '+' ? a + b : a - b;
            }
            return a;
        }

        int product() {
            int a = signed();
            while (next() == '*' || next() == '/') {
                char c = next();
                p++;
                int b = signed();
                a = c == '*' ? a * b : b == 0 ? 0 : a / b;
            }
            return a;
        }

        int signed() {
            if (next() == '-') {
                p++;
                return -signed();
            }
            return thing();
        }

        int thing() {
            char c = next();
            if (c >= '0' && c <= '9') {
                int from = p;
                while (p < from + 3 && next() >= '0' && next() <= '9') {
                    p++;
                }
                return Integer.parseInt(s.substring(from, p));
            }
            if (c == '(' && depth < 4) {
                p++;
                depth++;
                int v = expression();
                if (next() != ')') {
                    throw new Wrong(p);
                }
                p++;
                depth--;
                return v;
            }
            if (things.containsKey(c)) {
                p++;
                return things.get(c);
            }
            throw new Wrong(p);
        }
    }

    String text = "";
    List<Integer> heights = new ArrayList<>(List.of(0, 0));
    TreeSet<Integer> rivers = new TreeSet<>();
    int[] bold = {9, 3};
    int[] liked = {5, 5};
    String[] wishTexts = {"", ""};
    int[] wishDays = {0, 0};
    String ruleText = "";
    State now = new State();
    ArrayDeque<State> past = new ArrayDeque<>();
    State[] keptStates = new State[2];
    List<Long> row = new ArrayList<>();
    Map<Integer, Integer> marches = new HashMap<>();

    void tell(long... numbers) {
        row = new ArrayList<>();
        for (long n : numbers) {
            row.add(n);
        }
    }

    static Map<Character, Integer> things(int b, int l, int h, int m, int e, int f, int d, int w) {
        return Map.of('b', b, 'l', l, 'h', h, 'm', m, 'e', e, 'f', f, 'd', d, 'w', w);
    }

    int value(int who, int h, int men, int foeMen, int food, int day, int w) {
        String r = ruleText.isEmpty() ? "(b+1)*3+h*4+(m-e)/2" : ruleText;
        int v = new Reader(r, things(bold[who], liked[who], h, men / 10, foeMen / 10, food / 10, day % 10, w)).whole();
        return v > 500 ? 500 : v < -500 ? -500 : v;
    }

    int battleValue(State s, int army, int who, int day) {
        int w = Math.abs(army - s.foe) == 1 && rivers.contains(Math.min(army, s.foe)) ? 1 : 0;
        return value(who, heights.get(army) - heights.get(s.foe), s.men, s.foeMen, s.food, day, w);
    }

    boolean near(int a, int b) {
        return Math.abs(a - b) < 2;
    }

    boolean isField(int f) {
        return 0 <= f && f < heights.size();
    }

    boolean isConsul(int c) {
        return c == 0 || c == 1;
    }

    int reachOf(int c) {
        return 1 + bold[c] / 3;
    }

    /** Steps one by one, as the army walks: a river costs one more, the foe's field stops it. */
    TreeSet<Integer> goals(int c, int from) {
        TreeSet<Integer> all = new TreeSet<>(List.of(from));
        for (int dir = -1; dir <= 1; dir += 2) {
            int left = reachOf(c);
            int at = from;
            while (isField(at + dir) && (at == from || at != now.foe)) {
                left -= rivers.contains(Math.min(at, at + dir)) ? 2 : 1;
                if (left < 0) {
                    break;
                }
                at += dir;
                all.add(at);
            }
        }
        return all;
    }

    long bits(Iterable<Integer> set) {
        long b = 0;
        for (int i : set) {
            b |= 1L << i;
        }
        return b;
    }

    // ---- the ground, wishes

    int sign(int v) {
        if (text.length() > 76) {
            return -1;
        }
        text += "" + (char) (v >> 24 & 255) + (char) (v >> 16 & 255) + (char) (v >> 8 & 255) + (char) (v & 255);
        return text.length();
    }

    boolean end(int n) {
        if (n < 0 || n > text.length()) {
            return false;
        }
        text = text.substring(0, n);
        return true;
    }

    String takeText() {
        String t = text;
        text = "";
        return t;
    }

    int ground() {
        String t = takeText();
        List<Integer> hs = new ArrayList<>();
        TreeSet<Integer> rs = new TreeSet<>();
        int p = 0;
        while (true) {
            if (p == t.length() || t.charAt(p) < '0' || t.charAt(p) > '9' || hs.size() == 12) {
                return -1 - p;
            }
            hs.add(t.charAt(p) - '0');
            p++;
            if (p == t.length() && hs.size() >= 2) {
                break;
            }
            if (p < t.length() && t.charAt(p) == '~') {
                rs.add(hs.size() - 1);
                p++;
            }
        }
        heights = hs;
        rivers = rs;
        now.army = 0;
        now.foe = hs.size() - 1;
        past.clear();
        Arrays.fill(keptStates, null);
        return hs.size();
    }

    int wishes(int c) {
        String t = takeText();
        if (!isConsul(c)) {
            return -100;
        }
        for (int p = 0; p < t.length(); p++) {
            if (p == 20 || !Character.toString(t.charAt(p)).matches("[0-9]")) {
                return -1 - p;
            }
        }
        if (t.isEmpty()) {
            return -1;
        }
        wishTexts[c] = t;
        wishDays[c] = now.day;
        return t.length();
    }

    int wish(int c, int day) {
        int i = day - wishDays[c];
        return i < 0 || i >= wishTexts[c].length() ? 0 : wishTexts[c].charAt(i) - '0';
    }

    int rule() {
        String t = takeText();
        if (!t.isEmpty()) {
            try {
                new Reader(t.length() > 40 ? t.substring(0, 40) : t, things(1, 1, 1, 1, 1, 1, 1, 1)).whole();
                if (t.length() > 40) {
                    return -41;
                }
            } catch (Wrong e) {
                return -1 - e.at;
            }
        }
        ruleText = t;
        return 0;
    }

    int field(int f, int what) {
        if (!isField(f) || what < 0 || what > 3) {
            throw new NoSuchElementException();
        }
        return what == 0 ? heights.get(f) : what == 1 ? rivers.contains(f) ? 1 : 0
                : (what == 2 ? now.army : now.foe) == f ? 1 : 0;
    }

    int consul(int c, int what) {
        if (!isConsul(c) || what < 0 || what > 4) {
            throw new NoSuchElementException();
        }
        return new int[] {bold[c], liked[c], reachOf(c), now.sick[c], wish(c, now.day)}[what];
    }

    int set(int c, int what, int v) {
        if (!isConsul(c) || what < 0 || what > 1 || v < 0 || v > 9) {
            return -1;
        }
        int[] which = what == 0 ? bold : liked;
        int old = which[c];
        which[c] = v;
        return old;
    }

    int sheet(int kind, int n, int f, int step) {
        if (kind < 0 || kind > 3 || n > 12) {
            return -1;
        }
        if (kind < 3 && n < 0) {
            return -2;
        }
        List<Integer> hs = new ArrayList<>();
        int entry = f;
        for (int i = 0; i < heights.size(); i++) {
            int v = kind == 0 ? (byte) entry : kind == 1 ? (short) entry : entry;
            hs.add(kind == 3 || i >= n ? 0 : v < 0 ? 0 : v > 9 ? 9 : v);
            entry += step;
        }
        heights = hs;
        return kind == 3 ? -3 : hs.stream().mapToInt(Integer::intValue).sum();
    }

    // ---- days

    int whose() {
        return now.who(now.day);
    }

    int kept(State old, int answer) {
        if (answer >= 0) {
            past.addLast(old);
            if (past.size() > 12) {
                past.removeFirst();
            }
        }
        return answer;
    }

    int march(int v) {
        return kept(now.twin(), march0(v));
    }

    int march0(int v) {
        if (v == 0 || Math.abs((long) v) > 12) {
            return -1;
        }
        int c = whose();
        if (c < 0) {
            return -2;
        }
        int to = now.army + v;
        if (!isField(to)) {
            return -3;
        }
        int cost = 0;
        for (int f = Math.min(to, now.army); f < Math.max(to, now.army); f++) {
            cost += rivers.contains(f) ? 2 : 1;
        }
        if (cost > reachOf(c)) {
            return -4;
        }
        if ((long) (now.foe - now.army) * (now.foe - to) < 0) {
            return -5;
        }
        now.army = to;
        now.night();
        tell(c, now.food);
        return to;
    }

    int halt() {
        return kept(now.twin(), halt0());
    }

    int halt0() {
        tell(whose());
        now.night();
        return now.food;
    }

    int fight() {
        return kept(now.twin(), fight0());
    }

    int fight0() {
        if (whose() < 0) {
            return -2;
        }
        if (!near(now.army, now.foe)) {
            return -3;
        }
        if (now.men * now.foeMen == 0) {
            return -4;
        }
        int v = battleValue(now, now.army, whose(), now.day);
        now.battle(v);
        tell(now.men, now.foeMen);
        now.night();
        return 501 + v;
    }

    int foe(int f) {
        return kept(now.twin(), foe0(f));
    }

    int foe0(int f) {
        if (!isField(f)) {
            return -1;
        }
        int old = now.foe;
        now.foe = f;
        return old;
    }

    int send(int what, int n) {
        if (what < 0 || what > 2 || n < 1 || n > 999) {
            return -1;
        }
        State old = now.twin();
        if (what == 0) {
            now.food = Math.min(9999, now.food + n);
        } else if (what == 1) {
            now.men = Math.min(9999, now.men + n);
        } else {
            now.foeMen = Math.min(9999, now.foeMen + n);
        }
        return kept(old, what == 0 ? now.food : what == 1 ? now.men : now.foeMen);
    }

    int lend(int day) {
        return kept(now.twin(), lend0(day));
    }

    int lend0(int day) {
        if (day < now.day || day > 99) {
            return -1;
        }
        if (!now.lent.remove(day)) {
            now.lent.add(day);
        }
        return now.lent.tailSet(now.day).size();
    }

    int sick(int c, int n) {
        if (!isConsul(c) || n < 1 || n > 30) {
            return -1;
        }
        State old = now.twin();
        now.sick[c] = now.day + n - 1;
        return kept(old, now.sick[c]);
    }

    int war() {
        String t = takeText();
        String read = t.length() > 60 ? t.substring(0, 60) : t;
        int p = 0;
        List<String> acts = new ArrayList<>();
        while (p < read.length()) {
            char c = read.charAt(p);
            if (c == 'h' || c == 'x' || c == 'l') {
                acts.add("" + c);
                p++;
            } else if (c == '<' || c == '>' || c == 'f') {
                p++;
                if (p == read.length() || (c == 'f' ? "0123456789ab" : "123456789").indexOf(read.charAt(p)) < 0) {
                    return -1 - p;
                }
                acts.add("" + c + read.charAt(p));
                p++;
            } else {
                return -1 - p;
            }
        }
        if (t.length() > 60) {
            return -61;
        }
        State old = now.twin();
        int done = 0;
        boolean failed = false;
        for (String a : acts) {
            if (doAct(a) < 0) {
                failed = true;
                break;
            }
            done++;
        }
        if (done > 0) {
            kept(old, 0);
        }
        tell(failed ? 1 : 0, now.day);
        return done;
    }

    int doAct(String a) {
        char c = a.charAt(0);
        int v = a.length() > 1 ? Character.digit(a.charAt(1), 16) : 0;
        return c == 'h' ? halt0() : c == 'x' ? fight0() : c == 'l' ? lend0(now.day) : c == 'f' ? foe0(v)
                : march0(c == '>' ? v : -v);
    }

    int undo() {
        if (past.isEmpty()) {
            return -1;
        }
        now = past.removeLast();
        return past.size();
    }

    // ---- what is to come

    int comes(int c, int n) {
        if (!isConsul(c) || n < 1 || n > 30) {
            return -1;
        }
        TreeSet<Integer> mine = new TreeSet<>();
        int nobodys = 0;
        for (int i = 0; i < n; i++) {
            if (now.who(now.day + i) == c) {
                mine.add(i);
            }
            nobodys += now.who(now.day + i) == -1 ? 1 : 0;
        }
        tell(mine.size(), nobodys);
        return (int) bits(mine);
    }

    int issue(int f, int n) {
        if (!isField(f) || n < 0 || n > 30) {
            return -1;
        }
        int c = now.who(now.day + n);
        if (c < 0) {
            return -2;
        }
        if (!near(f, now.foe)) {
            return -3;
        }
        tell(c);
        return 501 + battleValue(now, f, c, now.day + n);
    }

    int reach(int c) {
        if (!isConsul(c)) {
            return -1;
        }
        TreeSet<Integer> g = goals(c, now.army);
        tell(g.size());
        return (int) bits(g);
    }

    int evening() {
        if (whose() < 0) {
            return -2;
        }
        List<int[]> all = new ArrayList<>();
        int tomorrow = now.day + 1;
        for (int f : goals(whose(), now.army)) {
            boolean battle = now.who(tomorrow) >= 0 && near(f, now.foe);
            int v = battle ? battleValue(now, f, now.who(tomorrow), tomorrow) : 0;
            all.add(new int[] {-v, Math.abs(f - now.army), f});
        }
        all.sort(Arrays::compare);
        tell(501 - all.get(0)[0]);
        return all.get(0)[2];
    }

    int lasts() {
        int left = now.food;
        for (int k = 1; k <= 99; k++) {
            if (left < now.men / 100 + 1) {
                return k;
            }
            left -= now.men / 100 + 1;
        }
        return -2;
    }

    int feeds(int n) {
        if (n < 0 || n > 99) {
            return -1;
        }
        State s = now.twin();
        for (int i = 0; i < n; i++) {
            s.night();
        }
        tell(s.food);
        return s.men;
    }

    int boldness(int f) {
        if (!isField(f)) {
            return -1000;
        }
        if (!near(f, now.foe)) {
            return -2000;
        }
        int a = battleValue(now, f, 0, now.day);
        int b = battleValue(now, f, 1, now.day);
        tell(501 + a, 501 + b);
        return a - b;
    }

    int arrives(int goal) {
        if (!isField(goal)) {
            return -1;
        }
        for (int days = 0; days <= 20; days++) {
            List<Integer> way = leastWay(0, days, now.army, goal, new TreeSet<>());
            if (way != null) {
                tell(way.stream().mapToLong(Integer::longValue).toArray());
                return days;
            }
        }
        return -2;
    }

    List<Integer> leastWay(int i, int days, int at, int goal, TreeSet<Integer> dead) {
        if (i == days) {
            return at == goal ? new ArrayList<>() : null;
        }
        if (dead.contains(i * 100 + at)) {
            return null;
        }
        int c = now.who(now.day + i);
        for (int to : c < 0 ? new TreeSet<>(List.of(at)) : goals(c, at)) {
            List<Integer> rest = leastWay(i + 1, days, to, goal, dead);
            if (rest != null) {
                rest.add(0, to);
                return rest;
            }
        }
        dead.add(i * 100 + at);
        return null;
    }

    // ---- games of ground

    /** The longest way without a battle from day i of n on, the least of these. */
    List<Integer> keptOff(int i, int n, int at, long given, Map<Integer, List<Integer>> known) {
        if (i == n) {
            return List.of();
        }
        int key = i * 100 + at;
        if (known.containsKey(key)) {
            return known.get(key);
        }
        int c = (given >> i & 1) == 1 ? 0 : now.who(now.day + i);
        List<Integer> tos = new ArrayList<>(c < 0 ? List.of(at) : goals(c, at));
        if (c == 0) {
            tos.sort((a, b) -> Integer.compare(Math.abs(a - now.foe), Math.abs(b - now.foe)));
            tos = near(tos.get(0), now.foe) ? List.of() : List.of(tos.get(0));
        }
        List<Integer> best = List.of();
        for (int to : tos) {
            List<Integer> way = new ArrayList<>(List.of(to));
            way.addAll(keptOff(i + 1, n, to, given, known));
            if (way.size() > best.size()) {
                best = way;
            }
        }
        known.put(key, best);
        return best;
    }

    int avoids(int n) {
        if (n < 1 || n > 20) {
            return -1;
        }
        List<Integer> way = keptOff(0, n, now.army, 0, new HashMap<>());
        tell(way.stream().mapToLong(Integer::longValue).toArray());
        return way.size();
    }

    int safe(int n) {
        if (n < 1 || n > 20) {
            return -1;
        }
        TreeSet<Integer> all = new TreeSet<>();
        for (int f = 0; f < heights.size(); f++) {
            if (keptOff(0, n, f, 0, new HashMap<>()).size() == n) {
                all.add(f);
            }
        }
        tell(all.size());
        return (int) bits(all);
    }

    int forces(int n) {
        if (n < 1 || n > 10) {
            return -1;
        }
        for (int many = 0; many <= n; many++) {
            for (int given = 0; given < 1 << n; given++) {
                boolean fits = Integer.bitCount(given) == many;
                for (int i = 0; i < n; i++) {
                    fits &= (given >> i & 1) == 0 || now.who(now.day + i) == 1;
                }
                if (fits && keptOff(0, n, now.army, given, new HashMap<>()).size() < n) {
                    tell(given);
                    return many;
                }
            }
        }
        return -2;
    }

    int offers(int n) {
        if (n < 1 || n > 30) {
            return -1;
        }
        int best = -2;
        int least = Integer.MAX_VALUE;
        for (int i = n - 1; i >= 0; i--) {
            int c = now.who(now.day + i);
            if (c >= 0) {
                int v = value(c, heights.get(now.army) - heights.get(now.foe), now.men, now.foeMen, now.food,
                        now.day + i, 0);
                if (v <= least) {
                    least = v;
                    best = i;
                }
            }
        }
        if (best >= 0) {
            tell(501 + least);
        }
        return best;
    }

    // ---- bargains

    int bargain() {
        List<long[]> pairs = new ArrayList<>();
        for (int i = 0; i < 20; i++) {
            for (int j = 0; j < 20; j++) {
                int a = now.day + i;
                int b = now.day + j;
                if (now.who(a) == 0 && now.who(b) == 1 && wish(0, b) > wish(0, a) && wish(1, a) > wish(1, b)) {
                    pairs.add(new long[] {i, j, wish(0, b) - wish(0, a) + wish(1, a) - wish(1, b)});
                }
            }
        }
        pairs.sort((p, q) -> p[2] != q[2] ? Long.compare(q[2], p[2]) : Arrays.compare(p, q));
        tell(pairs.isEmpty() ? new long[0] : pairs.get(0));
        return pairs.size();
    }

    int share(int n) {
        if (n < 1 || n > 20) {
            return -1;
        }
        int mine = 0;
        int nobodys = 0;
        int sumNow = 0;
        for (int i = 0; i < n; i++) {
            int c = now.who(now.day + i);
            mine += c == 0 ? 1 : 0;
            nobodys |= c < 0 ? 1 << i : 0;
            sumNow += c < 0 ? 0 : wish(c, now.day + i);
        }
        int best = -1;
        int bestSet = 0;
        for (int set = 0; set < 1 << n; set++) {
            if (Integer.bitCount(set) == mine && (set & nobodys) == 0) {
                int sum = 0;
                for (int i = 0; i < n; i++) {
                    sum += (nobodys >> i & 1) == 1 ? 0 : wish((set >> i & 1) == 1 ? 0 : 1, now.day + i);
                }
                if (sum > best) {
                    best = sum;
                    bestSet = set;
                }
            }
        }
        tell(bestSet, sumNow);
        return best;
    }

    // ---- rules of command, halves

    int command(int n) {
        if (n < 1 || n > 30) {
            return -1;
        }
        if (!near(now.army, now.foe)) {
            return -2;
        }
        List<int[]> all = new ArrayList<>();
        for (int days = 2; days <= 4; days++) {
            for (int b = 0; b < 1 << days; b++) {
                int sum = 0;
                for (int i = 0; i < n; i++) {
                    sum += battleValue(now, now.army, b >> i % days & 1, now.day + i);
                }
                all.add(new int[] {-sum, days, b});
            }
        }
        all.sort(Arrays::compare);
        tell(all.get(0)[2], -all.get(0)[0]);
        return all.get(0)[1];
    }

    int halves() {
        List<int[]> all = new ArrayList<>();
        int h = heights.get(now.army) - heights.get(now.foe);
        for (int x = 0; 100 * x <= now.men; x++) {
            int a = value(0, h, 100 * x, now.foeMen / 2, now.food, now.day, 0);
            int b = value(1, h, now.men - 100 * x, now.foeMen / 2, now.food, now.day, 0);
            all.add(new int[] {-(a + b), x, a});
        }
        all.sort(Arrays::compare);
        tell(-all.get(0)[0], all.get(0)[2]);
        return all.get(0)[1];
    }

    // ---- whose day it was

    int seen(int day, int v) {
        if (day < 0 || day > 19 || v < 0 || v > 9) {
            return -1;
        }
        marches.put(day, v);
        return marches.size();
    }

    int forget() {
        int old = marches.size();
        marches.clear();
        return old;
    }

    List<Integer> ways(int n, int k) {
        List<Integer> all = new ArrayList<>();
        for (int set = 0; set < 1 << n; set++) {
            boolean fits = true;
            int run = 0;
            for (int i = 0; i < n && fits; i++) {
                int c = set >> i & 1;
                run = i > 0 && (set >> i - 1 & 1) == c ? run + 1 : 1;
                fits = run <= k && (!marches.containsKey(i) || reachOf(c) >= marches.get(i));
            }
            if (fits) {
                all.add(set);
            }
        }
        return all;
    }

    int was(int n, int k) {
        if (n < 1 || n > 20 || k < 1 || k > 3) {
            return -1;
        }
        List<Integer> all = ways(n, k);
        tell(all.isEmpty() ? -1 : all.get(0));
        return all.size();
    }

    int sure(int n, int k) {
        if (n < 1 || n > 20 || k < 1 || k > 3) {
            return -1;
        }
        List<Integer> all = ways(n, k);
        int ones = (1 << n) - 1;
        int zeros = (1 << n) - 1;
        for (int w : all) {
            ones &= w;
            zeros &= ~w;
        }
        tell(all.isEmpty() ? 0 : ones);
        return all.isEmpty() ? 0 : ones | zeros;
    }

    int ask(int n, int k) {
        if (n < 1 || n > 20 || k < 1 || k > 3) {
            return -1;
        }
        List<Integer> all = ways(n, k);
        if (all.isEmpty()) {
            return -2;
        }
        int best = -1;
        int fewest = Integer.MAX_VALUE;
        for (int i = 0; i < n; i++) {
            int ones = 0;
            for (int w : all) {
                ones += w >> i & 1;
            }
            if (Math.max(ones, all.size() - ones) < fewest) {
                fewest = Math.max(ones, all.size() - ones);
                best = i;
            }
        }
        tell(fewest);
        return best;
    }

    // ---- rain, votes, wars

    int rain(int n, int p) {
        if (n < 0 || n > 12 || p < 0 || p > 10) {
            return -1;
        }
        BigInteger sum = BigInteger.ZERO;
        for (int rained = 0; rained < 1 << n; rained++) {
            int wet = Integer.bitCount(rained);
            if ((n - wet) % 2 == 0) {
                sum = sum.add(BigInteger.valueOf(p).pow(wet).multiply(BigInteger.valueOf(10 - p).pow(n - wet)));
            }
        }
        BigInteger all = BigInteger.TEN.pow(n);
        BigInteger g = sum.gcd(all);
        tell(sum.divide(g).longValueExact(), all.divide(g).longValueExact());
        return 0;
    }

    int stops(int n, int p) {
        if (n < 1 || n > 15 || p < 0 || p > 10) {
            return -1;
        }
        BigInteger sum = BigInteger.ZERO;
        for (int votes = 0; votes < 1 << n; votes++) {
            int k = Integer.bitCount(votes);
            if (k * 3 >= n) {
                sum = sum.add(BigInteger.valueOf(p).pow(k).multiply(BigInteger.valueOf(10 - p).pow(n - k)));
            }
        }
        return sum.multiply(BigInteger.valueOf(1000000)).divide(BigInteger.TEN.pow(n)).intValueExact();
    }

    int legions(int a, int b) {
        if (a + b <= 9) {
            return a;
        }
        return Math.max(0, 9 - b - (a == b ? 1 : 0));
    }

    int rests() {
        List<long[]> all = new ArrayList<>();
        for (int a = 0; a < 10; a++) {
            for (int b = 0; b < 10; b++) {
                boolean rest = true;
                for (int c = 0; c < 10; c++) {
                    rest &= legions(c, b) <= legions(a, b) && legions(c, a) <= legions(b, a);
                }
                if (rest) {
                    all.add(new long[] {a, b});
                }
            }
        }
        tell(all.isEmpty() ? new long[0] : all.get(0));
        return all.size();
    }

    int years(int seed, int n) {
        if (n < 1 || n > 60) {
            return -1;
        }
        State s = now.twin();
        long r = seed;
        int battles = 0;
        for (int i = 0; i < n; i++) {
            r = (int) (r * 1103515245L + 12345L);
            int draw = (int) ((r & 0xffffffffL) / 65536 % 4);
            int c = s.who(s.day);
            if (c >= 0 && draw == 0) {
                s.army += Integer.signum(s.foe - s.army);
            } else if (c >= 0 && draw == 1) {
                int to = s.army > s.foe ? s.army + 1 : s.army - 1;
                s.army = isField(to) ? to : s.army;
            } else if (c >= 0 && draw == 2 && near(s.army, s.foe) && s.men > 0 && s.foeMen > 0) {
                s.battle(battleValue(s, s.army, c, s.day));
                battles++;
            }
            s.night();
        }
        tell(s.men, s.foeMen, s.food);
        return battles;
    }

    // ---- kept

    boolean keep(int i) {
        if (i != 0 && i != 1) {
            return false;
        }
        keptStates[i] = now.twin();
        return true;
    }

    boolean again(int i) {
        if (i != 0 && i != 1 || keptStates[i] == null) {
            return false;
        }
        now = keptStates[i].twin();
        past.clear();
        return true;
    }

    int count(int what) {
        if (what < 0 || what > 12) {
            return -1;
        }
        return (int) new long[] {heights.size(), now.day, now.army, now.foe, now.men, now.foeMen, now.food,
            now.lent.tailSet(now.day).size(), near(now.army, now.foe) ? 1 : 0, bits(marches.keySet()), past.size(),
            row.size(), text.length()}[what];
    }

    long row(int i) {
        if (i < 0 || i >= row.size()) {
            throw new NoSuchElementException();
        }
        return row.get(i);
    }
}
