import java.util.NoSuchElementException;

/** An army under two consuls who command on alternate days, and the questions that a careful enemy asks. */
public final class CommandByTurns {
    public static final int NONE = -1;

    private static final int NOBODYS_DAY = -2;
    private static final int NOT_NEAR = -3;
    private static final int NOT_NEAR_NOW = -2;
    private static final int NEVER = -2;
    private static final int NO_SUCH_CONSUL = -100;

    /** An ISSUE is told with this added, so that no ISSUE looks like a refusal. */
    private static final int EVEN = 501;
    private static final int MOST_ISSUE = 500;
    private static final int MOST_FIELDS = 12;
    private static final int MOST_MEN = 9999;
    private static final int LAST_LENT = 99;
    private static final int LONGEST_WAR = 60;
    private static final int WISHED_DAYS = 20;
    private static final int OLD_DAYS = 20;
    private static final int COUNTED_DAYS = 30;

    private final Text text;
    private final Land land;
    private final Formula formula;
    private final Leader rash;
    private final Leader slow;
    private final Standing now;
    private final Standing before;
    private final Standing trial;
    private final Past past;
    private final Standing[] kept;
    private int keptBits;
    private final Row told;
    private final Walk walk;
    private final OldWar oldWar;
    private final int[] things;
    private final int[] rashIssues;
    private final int[] slowIssues;

    public CommandByTurns() {
        text = new Text();
        land = new Land();
        formula = new Formula();
        rash = new Leader(9);
        slow = new Leader(3);
        now = new Standing();
        before = new Standing();
        trial = new Standing();
        past = new Past();
        kept = new Standing[] {new Standing(), new Standing()};
        told = new Row();
        walk = new Walk();
        oldWar = new OldWar();
        things = new int[Formula.LETTERS.length()];
        rashIssues = new int[COUNTED_DAYS];
        slowIssues = new int[COUNTED_DAYS];
    }

    // ---- the ground, wishes

    public int sign(int v) {
        return text.addFour(v) ? text.length : NONE;
    }

    public boolean end(int n) {
        if (n < 0 || n > text.length) {
            return false;
        }
        text.length = n;
        return true;
    }

    public int ground() {
        int wrong = Land.misreadAt(text);
        if (wrong == NONE) {
            land.read(text);
            now.armyAt = 0;
            now.foeAt = land.size - 1;
            past.size = 0;
            keptBits = 0;
        }
        text.length = 0;
        return wrong == NONE ? land.size : -1 - wrong;
    }

    public int wishes(int consul) {
        int answer = NO_SUCH_CONSUL;
        if (isConsul(consul)) {
            int wrong = Leader.wishMisreadAt(text);
            if (wrong == NONE) {
                leader(consul).readWishes(text, now.day);
            }
            answer = wrong == NONE ? text.length : -1 - wrong;
        }
        text.length = 0;
        return answer;
    }

    public int rule() {
        int wrong = text.length == 0 ? NONE : Formula.misreadAt(text);
        if (wrong == NONE) {
            formula.read(text);
        }
        text.length = 0;
        return wrong == NONE ? 0 : -1 - wrong;
    }

    public int field(int field, int what) throws NoSuchElementException {
        if (!land.has(field)) {
            throw new NoSuchElementException("no such field");
        }
        switch (what) {
            case 0:
                return land.heightOf(field);
            case 1:
                return land.riverBetween(field, field + 1);
            case 2:
                return now.armyAt == field ? 1 : 0;
            case 3:
                return now.foeAt == field ? 1 : 0;
            default:
                throw new NoSuchElementException("no such number of a field");
        }
    }

    public int consul(int consul, int what) throws NoSuchElementException {
        if (!isConsul(consul)) {
            throw new NoSuchElementException("no such consul");
        }
        switch (what) {
            case 0:
                return leader(consul).bold;
            case 1:
                return leader(consul).liked;
            case 2:
                return leader(consul).stride();
            case 3:
                return now.sickTill(consul);
            case 4:
                return leader(consul).wishFor(now.day);
            default:
                throw new NoSuchElementException("no such number of a consul");
        }
    }

    public int set(int consul, int what, int v) {
        if (!isConsul(consul) || what < 0 || what > 1 || v < 0 || v > 9) {
            return NONE;
        }
        Leader one = leader(consul);
        int old = what == 0 ? one.bold : one.liked;
        if (what == 0) {
            one.bold = v;
        } else {
            one.liked = v;
        }
        return old;
    }

    public int sheet(int kind, int n, int f, int step) {
        if (kind < 0 || kind > 3 || n > MOST_FIELDS) {
            return NONE;
        }
        if (kind == 3) {
            land.raise(kind, 0, f, step);
            return -3;
        }
        return n < 0 ? -2 : land.raise(kind, n, f, step);
    }

    // ---- days

    public int whose() {
        return now.commanderOn(now.day);
    }

    public int march(int v) {
        before.copy(now);
        return remembered(marchBy(v));
    }

    public int halt() {
        before.copy(now);
        return remembered(stay());
    }

    public int fight() {
        before.copy(now);
        return remembered(doBattle());
    }

    public int foe(int field) {
        before.copy(now);
        return remembered(moveFoe(field));
    }

    public int send(int what, int n) {
        if (what < 0 || what > 2 || n < 1 || n > 999) {
            return NONE;
        }
        before.copy(now);
        return remembered(now.provide(what, n));
    }

    public int lend(int day) {
        before.copy(now);
        return remembered(turnDay(day));
    }

    public int sick(int consul, int n) {
        if (!isConsul(consul) || n < 1 || n > 30) {
            return NONE;
        }
        before.copy(now);
        return remembered(now.fallSick(consul, n));
    }

    public int war() {
        int wrong = warMisreadAt();
        if (wrong != NONE) {
            text.length = 0;
            return -1 - wrong;
        }
        before.copy(now);
        int done = 0;
        int failed = 0;
        for (int i = 0; i < text.length && failed == 0; i++) {
            char sign = text.at(i);
            if (act(sign, text.at(i + 1)) < 0) {
                failed = 1;
            } else {
                done++;
            }
            i += isActOfTwo(sign) ? 1 : 0;
        }
        if (done > 0) {
            past.push(before);
        }
        text.length = 0;
        told.tellTwo(failed, now.day);
        return done;
    }

    public int undo() {
        return past.pop(now) ? past.size : NONE;
    }

    /** Sees to it that a call which was done can be undone, and hands its answer on. */
    private int remembered(int answer) {
        if (answer >= 0) {
            past.push(before);
        }
        return answer;
    }

    private int marchBy(int v) {
        if (v < -MOST_FIELDS || v > MOST_FIELDS || v == 0) {
            return NONE;
        }
        int who = whose();
        if (who == NONE) {
            return NOBODYS_DAY;
        }
        int to = now.armyAt + v;
        if (!land.has(to)) {
            return -3;
        }
        if (land.wayBetween(now.armyAt, to) > leader(who).stride()) {
            return -4;
        }
        if (Land.isPast(now.armyAt, now.foeAt, to)) {
            return -5;
        }
        now.armyAt = to;
        now.night();
        told.tellTwo(who, now.food);
        return to;
    }

    private int stay() {
        int who = whose();
        now.night();
        told.tellOne(who);
        return now.food;
    }

    private int doBattle() {
        int who = whose();
        if (who == NONE) {
            return NOBODYS_DAY;
        }
        if (!Land.isNear(now.armyAt, now.foeAt)) {
            return NOT_NEAR;
        }
        if (now.men == 0 || now.foeMen == 0) {
            return -4;
        }
        int issue = issueFrom(now, now.armyAt, who, now.day);
        now.suffer(issue);
        told.tellTwo(now.men, now.foeMen);
        now.night();
        return EVEN + issue;
    }

    private int moveFoe(int field) {
        if (!land.has(field)) {
            return NONE;
        }
        int old = now.foeAt;
        now.foeAt = field;
        return old;
    }

    private int turnDay(int day) {
        if (day < now.day || day > LAST_LENT) {
            return NONE;
        }
        now.turnLent(day);
        return now.lentFrom(now.day);
    }

    private static boolean isActOfTwo(char sign) {
        return sign == '>' || sign == '<' || sign == 'f';
    }

    private int act(char sign, char next) {
        switch (sign) {
            case '>':
                return marchBy(next - '0');
            case '<':
                return marchBy('0' - next);
            case 'h':
                return stay();
            case 'x':
                return doBattle();
            case 'f':
                return moveFoe(next >= 'a' ? next - 'a' + 10 : next - '0');
            default:
                return turnDay(now.day);
        }
    }

    private int warMisreadAt() {
        int most = Math.min(text.length, LONGEST_WAR);
        char open = 0;
        for (int i = 0; i < most; i++) {
            char sign = text.at(i);
            if (open == 0) {
                if (isActOfTwo(sign)) {
                    open = sign;
                } else if (sign != 'h' && sign != 'x' && sign != 'l') {
                    return i;
                }
            } else {
                boolean fits = open == 'f' ? Text.isDigit(sign) || sign == 'a' || sign == 'b'
                        : Text.isDigit(sign) && sign != '0';
                if (!fits) {
                    return i;
                }
                open = 0;
            }
        }
        if (text.length > LONGEST_WAR) {
            return LONGEST_WAR;
        }
        return open == 0 ? NONE : text.length;
    }

    // ---- what is to come

    public int comes(int consul, int n) {
        if (!isConsul(consul) || n < 1 || n > COUNTED_DAYS) {
            return NONE;
        }
        int bits = 0;
        int nobodys = 0;
        for (int i = 0; i < n; i++) {
            int who = now.commanderOn(now.day + i);
            if (who == consul) {
                bits |= 1 << i;
            } else if (who == NONE) {
                nobodys++;
            }
        }
        told.tellTwo(Integer.bitCount(bits), nobodys);
        return bits;
    }

    public int issue(int field, int n) {
        if (!land.has(field) || n < 0 || n > 30) {
            return NONE;
        }
        int day = now.day + n;
        int who = now.commanderOn(day);
        if (who == NONE) {
            return NOBODYS_DAY;
        }
        if (!Land.isNear(field, now.foeAt)) {
            return NOT_NEAR;
        }
        told.tellOne(who);
        return EVEN + issueFrom(now, field, who, day);
    }

    public int reach(int consul) {
        if (!isConsul(consul)) {
            return NONE;
        }
        int bits = goals(consul, now.armyAt);
        told.tellOne(Integer.bitCount(bits));
        return bits;
    }

    public int evening() {
        int who = whose();
        if (who == NONE) {
            return NOBODYS_DAY;
        }
        int goals = goals(who, now.armyAt);
        int best = now.armyAt;
        int most = tomorrowFrom(best);
        for (int far = 1; far < MOST_FIELDS; far++) {
            for (int field = now.armyAt - far; field <= now.armyAt + far; field += 2 * far) {
                if (land.has(field) && (goals & 1 << field) != 0 && tomorrowFrom(field) > most) {
                    best = field;
                    most = tomorrowFrom(field);
                }
            }
        }
        told.tellOne(EVEN + most);
        return best;
    }

    public int lasts() {
        int nights = now.food / now.nightTakes() + 1;
        return nights > 99 ? NEVER : nights;
    }

    public int feeds(int n) {
        if (n < 0 || n > 99) {
            return NONE;
        }
        trial.copy(now);
        for (int i = 0; i < n; i++) {
            trial.night();
        }
        told.tellOne(trial.food);
        return trial.men;
    }

    public int boldness(int field) {
        if (!land.has(field)) {
            return -1000;
        }
        if (!Land.isNear(field, now.foeAt)) {
            return -2000;
        }
        int byRash = issueFrom(now, field, 0, now.day);
        int bySlow = issueFrom(now, field, 1, now.day);
        told.tellTwo(EVEN + byRash, EVEN + bySlow);
        return byRash - bySlow;
    }

    public int arrives(int field) {
        if (!land.has(field)) {
            return NONE;
        }
        prepareWalk();
        int days = walk.daysTill(now.armyAt, field);
        if (days == NONE) {
            return NEVER;
        }
        walk.lookBack(days, 1 << field);
        tellLeastWay(days);
        return days;
    }

    /** The ISSUE of tomorrow's battle with the army left in a field; 0 for no battle. */
    private int tomorrowFrom(int field) {
        int day = now.day + 1;
        int who = now.commanderOn(day);
        if (who == NONE || !Land.isNear(field, now.foeAt)) {
            return 0;
        }
        return issueFrom(now, field, who, day);
    }

    private int goals(int consul, int from) {
        return land.goals(from, now.foeAt, leader(consul).stride());
    }

    private void tellLeastWay(int days) {
        told.size = 0;
        int at = now.armyAt;
        for (int i = 0; i < days; i++) {
            at = walk.leastStep(i, at);
            told.add(at);
        }
    }

    // ---- games of ground

    public int avoids(int n) {
        if (n < 1 || n > Walk.MOST_DAYS) {
            return NONE;
        }
        prepareGame();
        int days = walk.daysKeptOff(now.armyAt, n);
        walk.lookBack(days, land.allFields());
        tellLeastWay(days);
        return days;
    }

    public int safe(int n) {
        if (n < 1 || n > Walk.MOST_DAYS) {
            return NONE;
        }
        prepareGame();
        int fields = walk.lookBack(n, land.allFields());
        told.tellOne(Integer.bitCount(fields));
        return fields;
    }

    public int forces(int n) {
        if (n < 1 || n > 10) {
            return NONE;
        }
        prepareGame();
        if (!walk.findFewest(now.armyAt, n)) {
            return NEVER;
        }
        told.tellOne(walk.fewestBits);
        return walk.fewest;
    }

    public int offers(int n) {
        if (n < 1 || n > COUNTED_DAYS) {
            return NONE;
        }
        int best = NONE;
        int least = 0;
        for (int i = 0; i < n; i++) {
            int day = now.day + i;
            int who = now.commanderOn(day);
            if (who != NONE) {
                int issue = issueOf(leader(who), gap(now.armyAt, now.foeAt), now.men, now.foeMen, now.food, day, 0);
                if (best == NONE || issue < least) {
                    best = i;
                    least = issue;
                }
            }
        }
        if (best == NONE) {
            return NOBODYS_DAY;
        }
        told.tellOne(EVEN + least);
        return best;
    }

    /** Ways of an army that marches as it likes; the foe stays. */
    private void prepareWalk() {
        for (int i = 0; i < Walk.MOST_DAYS; i++) {
            walk.owners[i] = now.commanderOn(now.day + i);
        }
        for (int field = 0; field < MOST_FIELDS; field++) {
            boolean isThere = land.has(field);
            walk.rashMoves[field] = isThere ? goals(0, field) : 0;
            walk.slowMoves[field] = isThere ? goals(1, field) : 0;
        }
    }

    /** As prepareWalk(), but consul 0 seeks the foe, and has no move on from a battle. */
    private void prepareGame() {
        prepareWalk();
        for (int field = 0; field < land.size; field++) {
            int to = land.nearestGoal(walk.rashMoves[field], now.foeAt);
            walk.rashMoves[field] = Land.isNear(to, now.foeAt) ? 0 : 1 << to;
        }
    }

    // ---- bargains

    public int bargain() {
        int pairs = 0;
        int bestRash = NONE;
        int bestSlow = NONE;
        int most = 0;
        for (int i = 0; i < WISHED_DAYS; i++) {
            for (int j = 0; j < WISHED_DAYS; j++) {
                if (now.commanderOn(now.day + i) == 0 && now.commanderOn(now.day + j) == 1) {
                    int rashGain = rash.wishFor(now.day + j) - rash.wishFor(now.day + i);
                    int slowGain = slow.wishFor(now.day + i) - slow.wishFor(now.day + j);
                    if (rashGain > 0 && slowGain > 0) {
                        pairs++;
                        if (rashGain + slowGain > most) {
                            bestRash = i;
                            bestSlow = j;
                            most = rashGain + slowGain;
                        }
                    }
                }
            }
        }
        told.size = 0;
        if (pairs > 0) {
            told.add(bestRash);
            told.add(bestSlow);
            told.add(most);
        }
        return pairs;
    }

    public int share(int n) {
        if (n < 1 || n > WISHED_DAYS) {
            return NONE;
        }
        int rashDays = 0;
        int sumNow = 0;
        int allSlow = 0;
        for (int i = 0; i < n; i++) {
            int who = now.commanderOn(now.day + i);
            if (who != NONE) {
                rashDays += who == 0 ? 1 : 0;
                sumNow += leader(who).wishFor(now.day + i);
                allSlow += slow.wishFor(now.day + i);
            }
        }
        int bits = 0;
        int sum = allSlow;
        for (int k = 0; k < rashDays; k++) {
            int day = bestToGive(n, bits);
            bits |= 1 << day;
            sum += gainByGiving(day);
        }
        told.tellTwo(bits, sumNow);
        return sum;
    }

    /** The day, of those not taken, that gains most with consul 0; the first of such, so that the bits are least. */
    private int bestToGive(int n, int taken) {
        int best = NONE;
        for (int i = 0; i < n; i++) {
            boolean isFree = (taken & 1 << i) == 0 && now.commanderOn(now.day + i) != NONE;
            if (isFree && (best == NONE || gainByGiving(i) > gainByGiving(best))) {
                best = i;
            }
        }
        return best;
    }

    private int gainByGiving(int i) {
        return rash.wishFor(now.day + i) - slow.wishFor(now.day + i);
    }

    // ---- rules of command, halves

    public int command(int n) {
        if (n < 1 || n > COUNTED_DAYS) {
            return NONE;
        }
        if (!Land.isNear(now.armyAt, now.foeAt)) {
            return NOT_NEAR_NOW;
        }
        for (int i = 0; i < n; i++) {
            rashIssues[i] = issueFrom(now, now.armyAt, 0, now.day + i);
            slowIssues[i] = issueFrom(now, now.armyAt, 1, now.day + i);
        }
        int bestDays = NONE;
        int bestBits = 0;
        int most = 0;
        for (int days = 2; days <= 4; days++) {
            for (int bits = 0; bits < 1 << days; bits++) {
                int sum = sumByTurns(n, days, bits);
                if (bestDays == NONE || sum > most) {
                    bestDays = days;
                    bestBits = bits;
                    most = sum;
                }
            }
        }
        told.tellTwo(bestBits, most);
        return bestDays;
    }

    private int sumByTurns(int n, int days, int bits) {
        int sum = 0;
        int turn = 0;
        for (int i = 0; i < n; i++) {
            sum += (bits >> turn & 1) == 1 ? slowIssues[i] : rashIssues[i];
            turn = turn + 1 == days ? 0 : turn + 1;
        }
        return sum;
    }

    public int halves() {
        int best = NONE;
        int most = 0;
        int rashPart = 0;
        int height = gap(now.armyAt, now.foeAt);
        int foePart = now.foeMen / 2;
        for (int x = 0; x <= now.men / 100; x++) {
            int byRash = issueOf(rash, height, 100 * x, foePart, now.food, now.day, 0);
            int bySlow = issueOf(slow, height, now.men - 100 * x, foePart, now.food, now.day, 0);
            if (best == NONE || byRash + bySlow > most) {
                best = x;
                most = byRash + bySlow;
                rashPart = byRash;
            }
        }
        told.tellTwo(most, rashPart);
        return best;
    }

    // ---- whose day it was

    public int seen(int day, int v) {
        if (day < 0 || day >= OLD_DAYS || v < 0 || v > 9) {
            return NONE;
        }
        return oldWar.note(day, v);
    }

    public int forget() {
        int old = Integer.bitCount(oldWar.notedBits);
        oldWar.notedBits = 0;
        return old;
    }

    public int was(int n, int k) {
        if (!isOldWar(n, k)) {
            return NONE;
        }
        int ways = waysThatFit(n, k);
        told.tellOne(oldWar.leastWay(n, k));
        return ways;
    }

    public int sure(int n, int k) {
        if (!isOldWar(n, k)) {
            return NONE;
        }
        int all = waysThatFit(n, k);
        int same = 0;
        int slows = 0;
        for (int i = 0; i < n && all > 0; i++) {
            int slowWays = oldWar.waysIf(n, k, i);
            if (slowWays == 0 || slowWays == all) {
                same |= 1 << i;
            }
            if (slowWays == all) {
                slows |= 1 << i;
            }
        }
        told.tellOne(slows);
        return same;
    }

    public int ask(int n, int k) {
        if (!isOldWar(n, k)) {
            return NONE;
        }
        int all = waysThatFit(n, k);
        if (all == 0) {
            return NEVER;
        }
        int best = NONE;
        int fewest = 0;
        for (int i = 0; i < n; i++) {
            int slowWays = oldWar.waysIf(n, k, i);
            int left = Math.max(slowWays, all - slowWays);
            if (best == NONE || left < fewest) {
                best = i;
                fewest = left;
            }
        }
        told.tellOne(fewest);
        return best;
    }

    private static boolean isOldWar(int n, int k) {
        return n >= 1 && n <= OLD_DAYS && k >= 1 && k <= OldWar.LONGEST_RUN;
    }

    private int waysThatFit(int n, int k) {
        oldWar.weigh(rash.stride(), slow.stride());
        return oldWar.ways(n, k);
    }

    // ---- rain, votes, wars

    public int rain(int n, int p) {
        if (n < 0 || n > 12 || p < 0 || p > 10) {
            return NONE;
        }
        long rashs = 1;
        long all = 1;
        for (int i = 0; i < n; i++) {
            rashs = rashs * p + (all - rashs) * (10 - p);
            all *= 10;
        }
        long common = commonDivisor(rashs, all);
        if (common > 0) {
            told.tellTwo(rashs / common, all / common);
        }
        return 0;
    }

    private static long commonDivisor(long a, long b) {
        long divisor = b;
        long rest = a;
        for (int i = 0; i < 1000 && rest != 0; i++) {
            long next = divisor % rest;
            divisor = rest;
            rest = next;
        }
        return divisor;
    }

    public int stops(int n, int p) {
        if (n < 1 || n > 15 || p < 0 || p > 10) {
            return NONE;
        }
        long sum = 0;
        long choices = 1;
        for (int k = 0; k <= n; k++) {
            if (3 * k >= n) {
                sum += choices * power(p, k) * power(10 - p, n - k);
            }
            choices = choices * (n - k) / (k + 1);
        }
        return (int) (n <= 6 ? sum * power(10, 6 - n) : sum / Math.max(1, power(10, n - 6)));
    }

    private static long power(int base, int exponent) {
        long product = 1;
        for (int i = 0; i < exponent; i++) {
            product *= base;
        }
        return product;
    }

    public int rests() {
        int pairs = 0;
        told.size = 0;
        for (int a = 0; a <= 9; a++) {
            for (int b = 0; b <= 9; b++) {
                if (isBestAgainst(a, b) && isBestAgainst(b, a)) {
                    if (pairs == 0) {
                        told.tellTwo(a, b);
                    }
                    pairs++;
                }
            }
        }
        return pairs;
    }

    private static boolean isBestAgainst(int own, int other) {
        for (int another = 0; another <= 9; another++) {
            if (legions(another, other) > legions(own, other)) {
                return false;
            }
        }
        return true;
    }

    private static int legions(int own, int other) {
        if (own + other <= 9) {
            return own;
        }
        int left = Math.max(0, 9 - other);
        return own == other ? Math.max(0, left - 1) : left;
    }

    public int years(int seed, int n) {
        if (n < 1 || n > 60) {
            return NONE;
        }
        trial.copy(now);
        int battles = 0;
        int r = seed;
        for (int i = 0; i < n; i++) {
            r = r * 1103515245 + 12345;
            int draw = (r >>> 16) % 4;
            int who = trial.commanderOn(trial.day);
            if (who != NONE) {
                battles += liveDay(draw, who);
            }
            trial.night();
        }
        told.size = 0;
        told.add(trial.men);
        told.add(trial.foeMen);
        told.add(trial.food);
        return battles;
    }

    /** Does on the trial what was drawn for a day: 1 if it was a battle, else 0. */
    private int liveDay(int draw, int who) {
        int towards = trial.foeAt > trial.armyAt ? 1 : -1;
        if (draw == 0 && trial.armyAt != trial.foeAt) {
            trial.armyAt += towards;
        } else if (draw == 1) {
            // from the foe's own field, back is down
            int back = trial.armyAt == trial.foeAt ? -1 : -towards;
            if (land.has(trial.armyAt + back)) {
                trial.armyAt += back;
            }
        } else if (draw == 2 && Land.isNear(trial.armyAt, trial.foeAt) && trial.men > 0 && trial.foeMen > 0) {
            trial.suffer(issueFrom(trial, trial.armyAt, who, trial.day));
            return 1;
        }
        return 0;
    }

    // ---- kept

    public boolean keep(int i) {
        if (i < 0 || i >= kept.length) {
            return false;
        }
        kept[i].copy(now);
        keptBits |= 1 << i;
        return true;
    }

    public boolean again(int i) {
        if (i < 0 || i >= kept.length || (keptBits & 1 << i) == 0) {
            return false;
        }
        now.copy(kept[i]);
        past.size = 0;
        return true;
    }

    public int count(int what) {
        switch (what) {
            case 0:
                return land.size;
            case 1:
                return now.day;
            case 2:
                return now.armyAt;
            case 3:
                return now.foeAt;
            case 4:
                return now.men;
            case 5:
                return now.foeMen;
            case 6:
                return now.food;
            case 7:
                return now.lentFrom(now.day);
            case 8:
                return Land.isNear(now.armyAt, now.foeAt) ? 1 : 0;
            case 9:
                return oldWar.notedBits;
            case 10:
                return past.size;
            case 11:
                return told.size;
            case 12:
                return text.length;
            default:
                return NONE;
        }
    }

    public long row(int i) throws NoSuchElementException {
        if (i < 0 || i >= told.size || i >= told.numbers.length) {
            throw new NoSuchElementException("no such number of the row");
        }
        return told.numbers[i];
    }

    // ---- what many calls need

    private static boolean isConsul(int consul) {
        return consul == 0 || consul == 1;
    }

    private Leader leader(int consul) {
        return consul == 1 ? slow : rash;
    }

    private int gap(int armyAt, int foeAt) {
        return land.heightOf(armyAt) - land.heightOf(foeAt);
    }

    /** The ISSUE with the army at a field, all else as it stands. */
    private int issueFrom(Standing s, int armyAt, int who, int day) {
        int river = land.riverBetween(armyAt, s.foeAt);
        return issueOf(leader(who), gap(armyAt, s.foeAt), s.men, s.foeMen, s.food, day, river);
    }

    private int issueOf(Leader who, int height, int men, int foeMen, int food, int day, int river) {
        things[0] = who.bold;
        things[1] = who.liked;
        things[2] = height;
        things[3] = men / 10;
        things[4] = foeMen / 10;
        things[5] = food / 10;
        things[6] = day % 10;
        things[7] = river;
        return Math.max(-MOST_ISSUE, Math.min(MOST_ISSUE, formula.valueOf(things)));
    }

    /** THE TEXT. */
    private static final class Text {
        static final int MOST_SIGNS = 80;

        final char[] signs = new char[MOST_SIGNS];
        int length;

        static boolean isDigit(char sign) {
            return sign >= '0' && sign <= '9';
        }

        /** The sign at a place; 0 where there is none. */
        char at(int i) {
            return i >= 0 && i < length && i < signs.length ? signs[i] : 0;
        }

        boolean addFour(int v) {
            if (length + 4 > signs.length) {
                return false;
            }
            for (int shift = 24; shift >= 0; shift -= 8) {
                add((char) (v >>> shift & 255));
            }
            return true;
        }

        void add(char sign) {
            if (length >= 0 && length < signs.length) {
                signs[length] = sign;
                length++;
            }
        }
    }

    /** The ROW. */
    private static final class Row {
        final long[] numbers = new long[32];
        int size;

        void add(long number) {
            if (size >= 0 && size < numbers.length) {
                numbers[size] = number;
                size++;
            }
        }

        void tellOne(long number) {
            size = 0;
            add(number);
        }

        void tellTwo(long first, long second) {
            size = 0;
            add(first);
            add(second);
        }
    }

    /** A consul as it is, and what it wishes. */
    private static final class Leader {
        int bold;
        int liked = 5;
        final int[] wishDigits = new int[WISHED_DAYS];
        int wishCount;
        int wishDay;

        Leader(int bold) {
            this.bold = bold;
        }

        static int wishMisreadAt(Text text) {
            for (int i = 0; i < text.length; i++) {
                if (i == WISHED_DAYS || !Text.isDigit(text.at(i))) {
                    return i;
                }
            }
            return text.length == 0 ? 0 : NONE;
        }

        void readWishes(Text text, int day) {
            wishCount = Math.min(text.length, wishDigits.length);
            wishDay = day;
            for (int i = 0; i < wishCount; i++) {
                wishDigits[i] = text.at(i) - '0';
            }
        }

        int wishFor(int day) {
            int i = day - wishDay;
            return i >= 0 && i < wishCount && i < wishDigits.length ? wishDigits[i] : 0;
        }

        int stride() {
            return bold / 3 + 1;
        }
    }

    /** THE GROUND. */
    private static final class Land {
        final int[] heights = new int[MOST_FIELDS];
        /** Bit i: a RIVER between FIELD i and the next one. */
        int rivers;
        int size = 2;

        boolean has(int field) {
            return field >= 0 && field < size && field < heights.length;
        }

        int heightOf(int field) {
            return has(field) ? heights[field] : 0;
        }

        static boolean isNear(int a, int b) {
            return a - b >= -1 && a - b <= 1;
        }

        static boolean isPast(int from, int foeAt, int to) {
            return from < foeAt && foeAt < to || to < foeAt && foeAt < from;
        }

        /** 1 for neighbours with a RIVER between, else 0. */
        int riverBetween(int a, int b) {
            boolean areNeighbours = has(a) && has(b) && (a - b == 1 || b - a == 1);
            return areNeighbours ? rivers >> Math.min(a, b) & 1 : 0;
        }

        int wayBetween(int a, int b) {
            int low = Math.min(a, b);
            int high = Math.max(a, b);
            int between = (1 << high) - (1 << low);
            return high - low + Integer.bitCount(rivers & between);
        }

        int allFields() {
            return (1 << size) - 1;
        }

        int goals(int from, int foeAt, int stride) {
            int bits = 0;
            for (int to = 0; to < size; to++) {
                if (wayBetween(from, to) <= stride && !isPast(from, foeAt, to)) {
                    bits |= 1 << to;
                }
            }
            return bits;
        }

        int nearestGoal(int goals, int foeAt) {
            int best = NONE;
            for (int to = 0; to < size; to++) {
                boolean isGoal = (goals >> to & 1) == 1;
                if (isGoal && (best == NONE || Math.abs(to - foeAt) < Math.abs(best - foeAt))) {
                    best = to;
                }
            }
            return best;
        }

        static int misreadAt(Text text) {
            int fields = 0;
            boolean isFieldDue = true;
            for (int i = 0; i < text.length; i++) {
                char sign = text.at(i);
                if (Text.isDigit(sign) && fields < MOST_FIELDS) {
                    fields++;
                    isFieldDue = false;
                } else if (sign == '~' && !isFieldDue) {
                    isFieldDue = true;
                } else {
                    return i;
                }
            }
            return fields < 2 || isFieldDue ? text.length : NONE;
        }

        void read(Text text) {
            size = 0;
            rivers = 0;
            for (int i = 0; i < text.length; i++) {
                char sign = text.at(i);
                if (sign == '~') {
                    rivers |= 1 << size - 1;
                } else if (size < heights.length) {
                    heights[size] = sign - '0';
                    size++;
                }
            }
        }

        /** Sets all HEIGHTS from n entries of a sheet, and sums them. */
        int raise(int kind, int n, int f, int step) {
            int sum = 0;
            for (int field = 0; field < size && field < heights.length; field++) {
                heights[field] = field < n ? asHeight(kind, f + field * step) : 0;
                sum += heights[field];
            }
            return sum;
        }

        private static int asHeight(int kind, int entry) {
            int value = entry;
            if (kind == 0) {
                value = (byte) entry;
            } else if (kind == 1) {
                value = (short) entry;
            }
            return Math.max(0, Math.min(9, value));
        }
    }

    /** What marches, battles and their like change, and what is put back by undo() and again(). */
    private static final class Standing {
        int day;
        int armyAt;
        int foeAt = 1;
        int men = 900;
        int foeMen = 900;
        int food = 500;
        /** Bit i: DAY i is LENT; in the second one, DAY 64 + i. */
        long lentEarly;
        long lentLate;
        int rashSickTill = NONE;
        int slowSickTill = NONE;

        void copy(Standing s) {
            day = s.day;
            armyAt = s.armyAt;
            foeAt = s.foeAt;
            men = s.men;
            foeMen = s.foeMen;
            food = s.food;
            lentEarly = s.lentEarly;
            lentLate = s.lentLate;
            rashSickTill = s.rashSickTill;
            slowSickTill = s.slowSickTill;
        }

        int sickTill(int consul) {
            return consul == 1 ? slowSickTill : rashSickTill;
        }

        int fallSick(int consul, int n) {
            int last = day + n - 1;
            if (consul == 1) {
                slowSickTill = last;
            } else {
                rashSickTill = last;
            }
            return last;
        }

        int commanderOn(int someDay) {
            int who = someDay % 2 == 0 ? 0 : 1;
            if (isLent(someDay)) {
                who = 1 - who;
            }
            if (sickTill(who) < someDay) {
                return who;
            }
            return sickTill(1 - who) < someDay ? 1 - who : NONE;
        }

        private boolean isLent(int someDay) {
            if (someDay < 0 || someDay > LAST_LENT) {
                return false;
            }
            long bits = someDay < 64 ? lentEarly >>> someDay : lentLate >>> someDay - 64;
            return (bits & 1) == 1;
        }

        void turnLent(int someDay) {
            if (someDay >= 64) {
                lentLate ^= 1L << someDay - 64;
            } else if (someDay >= 0) {
                lentEarly ^= 1L << someDay;
            }
        }

        int lentFrom(int firstDay) {
            int lent = 0;
            for (int i = Math.max(0, firstDay); i <= LAST_LENT; i++) {
                lent += isLent(i) ? 1 : 0;
            }
            return lent;
        }

        int provide(int what, int n) {
            switch (what) {
                case 0:
                    food = Math.min(MOST_MEN, food + n);
                    return food;
                case 1:
                    men = Math.min(MOST_MEN, men + n);
                    return men;
                default:
                    foeMen = Math.min(MOST_MEN, foeMen + n);
                    return foeMen;
            }
        }

        void suffer(int issue) {
            int lost = Math.abs(issue);
            int armyLoses = issue > 0 ? lost / 3 : lost;
            int foeLoses = issue > 0 ? lost : lost / 3;
            men = Math.max(0, men - armyLoses);
            foeMen = Math.max(0, foeMen - foeLoses);
        }

        int nightTakes() {
            return Math.max(1, men / 100 + 1);
        }

        void night() {
            int takes = nightTakes();
            if (food < takes) {
                food = 0;
                men -= men / 10;
            } else {
                food -= takes;
            }
            day++;
        }
    }

    /** The latest standings that undo() can go back to, the oldest of them overwritten first. */
    private static final class Past {
        static final int MOST = 12;

        final Standing[] standings = new Standing[MOST];
        int next;
        int size;

        Past() {
            for (int i = 0; i < MOST; i++) {
                standings[i] = new Standing();
            }
        }

        void push(Standing s) {
            if (next < 0 || next >= MOST) {
                next = 0;
            }
            standings[next].copy(s);
            next = next + 1 == MOST ? 0 : next + 1;
            size = Math.min(MOST, size + 1);
        }

        boolean pop(Standing into) {
            if (size == 0) {
                return false;
            }
            next = next <= 0 || next >= MOST ? MOST - 1 : next - 1;
            into.copy(standings[next]);
            size--;
            return true;
        }
    }

    /** THE RULE, its things and operators in the order in which they are worked out (operands first). */
    private static final class Formula {
        static final String LETTERS = "blhmefdw";
        static final String NO_RULE = "(b+1)*3+h*4+(m-e)/2";
        static final int MOST_SIGNS = 40;
        static final int MOST_DEPTH = 4;
        static final int MOST_DIGITS = 3;
        /** Codes below are numbers; from here on letters, from OPERATOR on operators by their sign. */
        static final int LETTER = 1000;
        static final int OPERATOR = 2000;
        /** Above all signs, so that no text can tell it. */
        static final int NEGATE = 256;

        final int[] code = new int[MOST_SIGNS];
        int codeLength;
        /** Operators that wait, while a text is read; operands that wait, while it is worked out. */
        final int[] waiting = new int[MOST_SIGNS];
        int waitingLength;

        Formula() {
            read(new Text());
        }

        static int misreadAt(Text text) {
            boolean isThingDue = true;
            int digits = 0;
            int depth = 0;
            int comparedDepths = 0;
            for (int i = 0; i < text.length && i < MOST_SIGNS; i++) {
                char sign = text.at(i);
                if (isThingDue) {
                    if (sign == '(' && depth < MOST_DEPTH) {
                        depth++;
                        comparedDepths &= ~(1 << depth);
                    } else if (isOperand(sign)) {
                        digits = Text.isDigit(sign) ? 1 : MOST_DIGITS;
                        isThingDue = false;
                    } else if (sign != '-') {
                        return i;
                    }
                } else if (Text.isDigit(sign) && digits < MOST_DIGITS) {
                    digits++;
                } else if (sign == ')' && depth > 0) {
                    depth--;
                    digits = MOST_DIGITS;
                } else if (rank(sign) > 1 || rank(sign) == 1 && (comparedDepths >> depth & 1) == 0) {
                    comparedDepths |= rank(sign) == 1 ? 1 << depth : 0;
                    isThingDue = true;
                } else {
                    return i;
                }
            }
            if (text.length > MOST_SIGNS) {
                return MOST_SIGNS;
            }
            return isThingDue || depth > 0 ? text.length : NONE;
        }

        private static boolean isOperand(char sign) {
            return Text.isDigit(sign) || LETTERS.indexOf(sign) >= 0;
        }

        /** How fast a sign between two binds; 0 for others. */
        private static int rank(int sign) {
            switch (sign) {
                case '<':
                case '>':
                case '=':
                    return 1;
                case '+':
                case '-':
                    return 2;
                case '*':
                case '/':
                    return 3;
                case NEGATE:
                    return 4;
                default:
                    return 0;
            }
        }

        /** Reads a text that has been looked through; an empty one tells no rule. */
        void read(Text text) {
            boolean isNone = text.length == 0;
            int length = isNone ? NO_RULE.length() : text.length;
            codeLength = 0;
            waitingLength = 0;
            boolean isThingDue = true;
            for (int i = 0; i < length; i++) {
                isThingDue = readSign(isNone ? NO_RULE.charAt(i) : text.at(i), isThingDue);
            }
            writeWaiting(1);
        }

        /** Takes the next sign; tells if a thing is due behind it. */
        private boolean readSign(char sign, boolean isThingDue) {
            if (Text.isDigit(sign)) {
                readDigit(sign - '0', isThingDue);
                return false;
            }
            if (LETTERS.indexOf(sign) >= 0) {
                write(LETTER + LETTERS.indexOf(sign));
                return false;
            }
            if (sign == ')') {
                writeWaiting(1);
                take();
                return false;
            }
            if (sign == '(') {
                push(sign);
            } else if (isThingDue) {
                push(NEGATE);
            } else {
                writeWaiting(rank(sign));
                push(sign);
            }
            return true;
        }

        private void readDigit(int digit, boolean isFirst) {
            if (isFirst) {
                write(digit);
            } else if (codeLength > 0 && codeLength <= code.length) {
                code[codeLength - 1] = code[codeLength - 1] * 10 + digit;
            }
        }

        /** Writes the operators that wait, down to one that binds less than a rank, or to a parenthesis. */
        private void writeWaiting(int leastRank) {
            for (int i = waitingLength; i > 0 && rank(waiting[i - 1]) >= leastRank; i--) {
                write(OPERATOR + take());
            }
        }

        private void write(int item) {
            if (codeLength >= 0 && codeLength < code.length) {
                code[codeLength] = item;
                codeLength++;
            }
        }

        private void push(int item) {
            if (waitingLength >= 0 && waitingLength < waiting.length) {
                waiting[waitingLength] = item;
                waitingLength++;
            }
        }

        private int take() {
            if (waitingLength <= 0 || waitingLength > waiting.length) {
                return 0;
            }
            waitingLength--;
            return waiting[waitingLength];
        }

        int valueOf(int[] things) {
            waitingLength = 0;
            for (int i = 0; i < codeLength && i < code.length; i++) {
                int item = code[i];
                if (item < LETTER) {
                    push(item);
                } else if (item < OPERATOR) {
                    int letter = item - LETTER;
                    push(letter < things.length ? things[letter] : 0);
                } else if (item == OPERATOR + NEGATE) {
                    push(-take());
                } else {
                    int right = take();
                    int left = take();
                    push(joined(item - OPERATOR, left, right));
                }
            }
            return take();
        }

        private static int joined(int operator, int left, int right) {
            switch (operator) {
                case '<':
                    return left < right ? 1 : 0;
                case '>':
                    return left > right ? 1 : 0;
                case '=':
                    return left == right ? 1 : 0;
                case '+':
                    return left + right;
                case '-':
                    return left - right;
                case '*':
                    return left * right;
                default:
                    return right == 0 ? 0 : left / right;
            }
        }
    }

    /** Ways over the ground, day by day, with the fields of a day as bits. */
    private static final class Walk {
        static final int MOST_DAYS = 20;

        /** By FIELD: where a day of a consul can bring the army from there. */
        final int[] rashMoves = new int[MOST_FIELDS];
        final int[] slowMoves = new int[MOST_FIELDS];
        final int[] owners = new int[MOST_DAYS];
        /** By days gone: the fields from which the goal of lookBack() can still be had. */
        final int[] open = new int[MOST_DAYS + 1];
        int fewest;
        int fewestBits;

        private int movesFrom(int owner, int field) {
            if (field < 0 || field >= MOST_FIELDS) {
                return 0;
            }
            if (owner == NONE) {
                return 1 << field;
            }
            return owner == 0 ? rashMoves[field] : slowMoves[field];
        }

        private int movesFromAny(int owner, int fields) {
            int bits = 0;
            for (int field = 0; field < MOST_FIELDS; field++) {
                if ((fields >> field & 1) == 1) {
                    bits |= movesFrom(owner, field);
                }
            }
            return bits;
        }

        /** NONE: not in any of the days. */
        int daysTill(int from, int goal) {
            int fields = 1 << from;
            for (int i = 0; i < MOST_DAYS; i++) {
                if ((fields >> goal & 1) == 1) {
                    return i;
                }
                fields = movesFromAny(owners[i], fields);
            }
            return (fields >> goal & 1) == 1 ? MOST_DAYS : NONE;
        }

        int daysKeptOff(int from, int n) {
            int fields = 1 << from;
            for (int i = 0; i < n && i < MOST_DAYS; i++) {
                fields = movesFromAny(owners[i], fields);
                if (fields == 0) {
                    return i;
                }
            }
            return n;
        }

        /** Finds the fields from which, in so many days, one of the last fields can be had. */
        int lookBack(int days, int lastFields) {
            int fields = lastFields;
            for (int i = Math.min(days, MOST_DAYS); i >= 0; i--) {
                open[i] = fields;
                fields = i == 0 ? fields : sourcesOf(owners[i - 1], fields);
            }
            return fields;
        }

        private int sourcesOf(int owner, int goals) {
            int bits = 0;
            for (int field = 0; field < MOST_FIELDS; field++) {
                if ((movesFrom(owner, field) & goals) != 0) {
                    bits |= 1 << field;
                }
            }
            return bits;
        }

        /** The lowest field to go to on a day, so that the goal of lookBack() can still be had. */
        int leastStep(int day, int from) {
            if (day < 0 || day >= MOST_DAYS) {
                return from;
            }
            return Integer.numberOfTrailingZeros(movesFrom(owners[day], from) & open[day + 1]);
        }

        boolean findFewest(int from, int n) {
            fewest = n + 1;
            fewestBits = 0;
            give(0, Math.min(n, MOST_DAYS), 1 << from, 0);
            return fewest <= n;
        }

        /** Tries consul 1's days from a day on with either; no field left means that a battle is forced. */
        private void give(int day, int n, int fields, int givenBits) {
            int given = Integer.bitCount(givenBits);
            if (fields == 0) {
                if (given < fewest || given == fewest && givenBits < fewestBits) {
                    fewest = given;
                    fewestBits = givenBits;
                }
                return;
            }
            if (day < 0 || day >= n || given > fewest) {
                return;
            }
            give(day + 1, n, movesFromAny(owners[day], fields), givenBits);
            if (owners[day] == 1) {
                give(day + 1, n, movesFromAny(0, fields), givenBits | 1 << day);
            }
        }
    }

    /** An old war: marches that were seen, and the ways in which its days can have been the consuls'. */
    private static final class OldWar {
        static final int LONGEST_RUN = 3;

        final int[] marches = new int[OLD_DAYS];
        int notedBits;
        /** By day, bits: whose it can have been. */
        final int[] canBe = new int[OLD_DAYS];
        /** By day, consul and 0 .. 3: ways up to a day that is that one's, at most so many of its days being its last. */
        final int[] table = new int[OLD_DAYS * 8];

        int note(int day, int v) {
            if (day >= 0 && day < marches.length) {
                marches[day] = v;
                notedBits |= 1 << day;
            }
            return Integer.bitCount(notedBits);
        }

        void weigh(int rashStride, int slowStride) {
            for (int i = 0; i < OLD_DAYS; i++) {
                boolean isNoted = (notedBits >> i & 1) == 1;
                int byRash = !isNoted || rashStride >= marches[i] ? 1 : 0;
                int bySlow = !isNoted || slowStride >= marches[i] ? 2 : 0;
                canBe[i] = byRash | bySlow;
            }
        }

        /** How many ways there are, if a day was consul 1's. */
        int waysIf(int n, int k, int day) {
            if (day < 0 || day >= OLD_DAYS) {
                return 0;
            }
            int old = canBe[day];
            canBe[day] = old & 2;
            int ways = ways(n, k);
            canBe[day] = old;
            return ways;
        }

        int ways(int n, int k) {
            for (int i = 0; i < n && i < OLD_DAYS; i++) {
                for (int who = 0; who <= 1; who++) {
                    for (int run = 0; run <= k && run <= LONGEST_RUN; run++) {
                        boolean canBeIts = run > 0 && (canBe[i] >> who & 1) == 1;
                        table[8 * i + 4 * who + run] = canBeIts ? waysAhead(i, who, run, k) : 0;
                    }
                }
            }
            return waysUpTo(n - 1, 0, k) + waysUpTo(n - 1, 1, k);
        }

        private int waysAhead(int day, int who, int run, int k) {
            return day == 0 ? 1 : waysUpTo(day - 1, 1 - who, k) + waysUpTo(day - 1, who, run - 1);
        }

        private int waysUpTo(int day, int who, int run) {
            int i = 8 * day + 4 * who + run;
            return i >= 0 && i < table.length ? table[i] : 0;
        }

        /** The least bits of the ways that ways() has counted last: from the last day on, consul 0 wherever it can be. */
        int leastWay(int n, int k) {
            if (waysUpTo(n - 1, 0, k) + waysUpTo(n - 1, 1, k) == 0) {
                return NONE;
            }
            int bits = 0;
            int rashRun = k;
            for (int i = n - 1; i >= 0; i--) {
                if (waysUpTo(i, 0, rashRun) > 0) {
                    rashRun--;
                } else {
                    bits |= 1 << i;
                    rashRun = k;
                }
            }
            return bits;
        }
    }
}
