import java.util.NoSuchElementException;

/**
 * Nutcrackers try cases: a text tells judges, nuts, suits, one lever and the laws; days go by on which
 * suits are tried; and much can be asked of days that are only thought of. The words in capitals are the
 * document's (DOC.md).
 *
 * <p>All rows are made together with the object and used again: no call makes an object of its own.
 */
public final class JawBench {
    public static final int NONE = -1;

    private static final int BY_NONE = -2;

    private static final int MOST_JUDGES = 4;
    private static final int MOST_NUTS = 6;
    private static final int MOST_SUITS = 10;
    private static final int MOST_NOTES = 24;
    private static final int MOST_DEEDS = 20;
    private static final int MOST_KNOTS = 64;
    private static final int MOST_OPEN = 8;
    private static final int TAPE_BYTES = 700;
    private static final int FED_BYTES = 20;
    private static final int LAST_DAY_TO_GO = 9900;
    private static final int LAST_DAY_TO_PUT = 9999;
    private static final int MOST_DAYS = 99;
    private static final int MOST_DAYS_SOUGHT = 60;
    private static final int TOLD_DAYS = 100;
    private static final int TOP_LEVER = 99;
    private static final int MOST_GAIN_ASKED = 999;

    private static final int KEPT = 0;
    private static final int WHOLE = 1;
    private static final int HALVED = 2;
    private static final int CRUMBS = 3;

    private static final int CANNOT_STAND = 1;
    private static final int TOO_MUCH = 2;
    private static final int TOLD_ALREADY = 3;
    private static final int NOT_TOLD = 4;

    private static final int FORCE_LAW = 0;
    private static final int SLACK_LAW = 1;
    private static final int WEAR_LAW = 2;
    private static final int LAWS = 3;

    private static final long ERROR = Long.MIN_VALUE;
    private static final long MOST_VALUE = 1000000000000L;

    private static final int END = 0;
    private static final int NO_TOKEN = 1;
    private static final int NUMBER = 2;
    private static final int OWN_WORD = 3;
    private static final int SEMICOLON = 4;
    private static final int OPEN = 5;
    private static final int CLOSE = 6;
    private static final int PLUS = 7;
    private static final int MINUS = 8;
    private static final int TIMES = 9;
    private static final int DIVIDED = 10;
    private static final int BELOW = 11;
    private static final int AT_MOST = 12;
    private static final int EQUAL = 13;
    private static final int UNLIKE = 14;
    private static final int AT_LEAST = 15;
    private static final int ABOVE = 16;

    /** Their order is that of the kinds below: rules stand together, and so do the NAMES of an E. */
    private static final String WORDS =
            "judge nut suit rest seed law force slack wear or and not jaw teeth hard bitter lever load day ";
    private static final int WORD_COUNT = 19;
    private static final int FIRST_WORD = 20;
    private static final int JUDGE = 20;
    private static final int NUT = 21;
    private static final int SUIT = 22;
    private static final int REST = 23;
    private static final int SEED = 24;
    private static final int LAW = 25;
    private static final int FORCE = 26;
    private static final int OR = 29;
    private static final int AND = 30;
    private static final int NOT = 31;
    private static final int JAW = 32;
    private static final int TEETH = 33;
    private static final int HARD = 34;
    private static final int BITTER = 35;
    private static final int LEVER = 36;
    private static final int LOAD = 37;
    private static final int DAY = 38;
    private static final int NAMES = 7;

    private static final int GIVING = 0;
    private static final int STONING = 1;
    private static final int PUTTING = 2;
    private static final int OILING = 3;

    private final byte[] tape = new byte[TAPE_BYTES];
    private final TextReader reader = new TextReader(tape);
    private final Court now = new Court();
    private final Court image = new Court();
    private final Court thought = new Court();
    private final Trials trials;
    private final Counsel counsel;
    private final Notes notes = new Notes();
    private final Deeds deeds = new Deeds();
    private Plan plan = new Plan();
    private Plan draft = new Plan();
    private int tapeLength;
    private int lastFault;
    private int lastFaultPlace = NONE;
    private boolean hasImage;

    public JawBench() {
        trials = new Trials(plan);
        counsel = new Counsel(trials, now, thought);
        now.beginAsTold(plan);
    }

    public int feed(int a, int b, int c, int d, int e) {
        if (tapeLength + FED_BYTES > TAPE_BYTES) {
            return NONE;
        }
        feedFour(a);
        feedFour(b);
        feedFour(c);
        feedFour(d);
        feedFour(e);
        return tapeLength;
    }

    public int text(int n) {
        if (n < 0 || n > tapeLength) {
            return BY_NONE;
        }
        tapeLength = 0;
        lastFault = reader.readText(draft, n);
        lastFaultPlace = lastFault == 0 ? NONE : reader.place();
        if (lastFault != 0) {
            return NONE;
        }
        Plan old = plan;
        plan = draft;
        draft = old;
        trials.plan = plan;
        now.beginAsTold(plan);
        notes.clear();
        deeds.clear();
        hasImage = false;
        return plan.lines;
    }

    public int fault(int what) {
        if (what == 0) {
            return lastFault;
        }
        return what == 1 ? lastFaultPlace : NONE;
    }

    public int named(int what, int letters) {
        switch (what) {
            case 0: return plan.judges.find(letters);
            case 1: return plan.nuts.find(letters);
            case 2: return plan.suits.find(letters);
            default: return NONE;
        }
    }

    public int suit(int suit, int what) throws IndexOutOfBoundsException, NoSuchElementException {
        if (!isSuit(suit)) {
            throw new IndexOutOfBoundsException("no such suit");
        }
        switch (what) {
            case 0: return now.judgeOf[suit];
            case 1: return plan.nutOf[suit];
            case 2: return now.dayOf[suit];
            case 3: return now.hasStone(suit) ? 1 : 0;
            case 4: return now.verdictOf[suit];
            case 5: return trials.gainOf(now, suit);
            default: throw new NoSuchElementException("no such what");
        }
    }

    public int judge(int judge, int what) {
        if (!isJudge(judge)) {
            return NONE;
        }
        switch (what) {
            case 0: return plan.jaw[judge];
            case 1: return now.teeth[judge];
            case 2: return triedBy(judge);
            case 3: return wholeOnesBy(judge);
            default: return NONE;
        }
    }

    public int nut(int nut, int what) {
        if (!isNut(nut)) {
            return NONE;
        }
        switch (what) {
            case 0: return plan.hard[nut];
            case 1: return plan.worth[nut];
            case 2: return plan.bitter[nut];
            default: return NONE;
        }
    }

    public int force(int judge, int nut) {
        return verdictWithoutStone(judge, nut) == NONE ? NONE : trials.force;
    }

    public int slack(int judge, int nut) {
        return verdictWithoutStone(judge, nut) == NONE ? NONE : trials.slack;
    }

    public int verdict(int judge, int nut) {
        return verdictWithoutStone(judge, nut);
    }

    public long law(int what, int judge, int nut) {
        if (what < 0 || what >= LAWS || verdictWithoutStone(judge, nut) == NONE) {
            return ERROR;
        }
        return plan.laws.worked(what, trials.names);
    }

    public boolean give(int suit, int judge) {
        if (!isPending(suit) || !isJudge(judge) || now.judgeOf[suit] == judge) {
            return false;
        }
        deeds.add(GIVING, suit, now.judgeOf[suit]);
        now.judgeOf[suit] = judge;
        return true;
    }

    public boolean stone(int suit, boolean is) {
        if (!isPending(suit) || now.hasStone(suit) == is) {
            return false;
        }
        deeds.add(STONING, suit, now.stones);
        now.stones ^= 1 << suit;
        return true;
    }

    public boolean put(int suit, int day) {
        if (!isPending(suit) || day < now.day || day > LAST_DAY_TO_PUT || now.dayOf[suit] == day) {
            return false;
        }
        deeds.add(PUTTING, suit, now.dayOf[suit]);
        now.dayOf[suit] = day;
        return true;
    }

    public int oil(int much) {
        if (much < 1 || much >= TOP_LEVER || now.lever + much > TOP_LEVER) {
            return NONE;
        }
        deeds.add(OILING, 0, now.lever);
        now.lever += much;
        return now.lever;
    }

    public int go(int n) {
        if (n < 0 || n > MOST_DAYS || now.day + n > LAST_DAY_TO_GO) {
            return NONE;
        }
        if (n > 0) {
            deeds.clear();
        }
        trials.asTheyAre();
        trials.pass(now, n);
        return now.day;
    }

    public int ahead(int n, int what) {
        if (n < 0 || n > MOST_DAYS || what < 0 || what > 6) {
            return NONE;
        }
        counsel.think();
        trials.pass(thought, n);
        if (what <= CRUMBS) {
            return verdictsOf(thought, what) - verdictsOf(now, what);
        }
        if (what == 4) {
            return counsel.gainMore();
        }
        return what == 5 ? thought.lever : teethOf(thought);
    }

    public int deal(int n, int what) {
        if (n < 1 || n > MOST_DAYS_SOUGHT || what < 0 || what > 4 || plan.judges.count == 0) {
            return NONE;
        }
        counsel.seekDeal(n);
        if (what == 4) {
            return counsel.bestGain;
        }
        return what < counsel.rowLength ? counsel.bestRow[what] : BY_NONE;
    }

    public int order(int what) {
        if (what < 0 || what > 5) {
            return NONE;
        }
        counsel.seekOrder();
        if (what == 5) {
            return counsel.bestGain;
        }
        return what < counsel.rowLength ? counsel.bestRow[what] : BY_NONE;
    }

    public int enough(int judge, int nut) {
        if (!isJudge(judge) || !isNut(nut)) {
            return NONE;
        }
        counsel.think();
        for (int lever = 1; lever <= TOP_LEVER; lever++) {
            thought.lever = lever;
            if (trials.measured(thought, judge, nut, plan.hard[nut]) == WHOLE) {
                return lever;
            }
        }
        return BY_NONE;
    }

    public int spoil(int n, int bound) {
        if (n < 1 || n > MOST_DAYS_SOUGHT || bound < 0 || bound > MOST_GAIN_ASKED) {
            return NONE;
        }
        return counsel.fewestStones(n, bound);
    }

    public int rests(int suit) {
        if (!isPending(suit)) {
            return NONE;
        }
        int verdict = verdictNow(suit);
        int worth = plan.worth[plan.nutOf[suit]];
        int found = 0;
        for (int pair = 0; pair < 4; pair++) {
            if (isRest(pair / 2, pair % 2, verdict, worth)) {
                found++;
            }
        }
        return found;
    }

    public int rest(int suit, int k) {
        if (!isPending(suit) || k < 0) {
            return NONE;
        }
        int verdict = verdictNow(suit);
        int worth = plan.worth[plan.nutOf[suit]];
        int found = 0;
        for (int pair = 0; pair < 4; pair++) {
            if (isRest(pair / 2, pair % 2, verdict, worth)) {
                if (found == k) {
                    return 10 * (pair / 2) + pair % 2;
                }
                found++;
            }
        }
        return BY_NONE;
    }

    public int twins() {
        int pairs = 0;
        for (int first = 0; first < plan.suits.count; first++) {
            for (int second = first + 1; second < plan.suits.count; second++) {
                if (areTwins(first, second)) {
                    pairs++;
                }
            }
        }
        return pairs;
    }

    public int likely(int suit, int what) {
        if (!isPending(suit) || what < 0 || what > 1) {
            return NONE;
        }
        trials.asTheyAre();
        int hardness = trials.hardnessOf(now, suit);
        int whole = 0;
        for (int more = 0; more < 10; more++) {
            if (trials.measured(now, now.judgeOf[suit], plan.nutOf[suit], hardness + more) == WHOLE) {
                whole++;
            }
        }
        int common = commonWithTen(whole);
        return what == 0 ? whole / common : 10 / common;
    }

    public int wholeBy(int suit) {
        if (!isPending(suit)) {
            return NONE;
        }
        trials.asTheyAre();
        int hardness = trials.hardnessOf(now, suit);
        int bits = 0;
        for (int judge = 0; judge < plan.judges.count; judge++) {
            if (trials.measured(now, judge, plan.nutOf[suit], hardness) == WHOLE) {
                bits |= 1 << judge;
            }
        }
        return bits;
    }

    public int docket(int day) {
        if (day < 0 || day > LAST_DAY_TO_PUT) {
            return NONE;
        }
        int bits = 0;
        for (int suit = 0; suit < plan.suits.count; suit++) {
            if (isPending(suit) && now.dayOf[suit] == day) {
                bits |= 1 << suit;
            }
        }
        return bits;
    }

    public int crown() {
        int best = NONE;
        int most = -1;
        for (int judge = 0; judge < plan.judges.count; judge++) {
            int whole = wholeOnesBy(judge);
            if (whole > most) {
                most = whole;
                best = judge;
            }
        }
        return best;
    }

    public int nextTooth() {
        counsel.think();
        for (int days = 1; days <= MOST_DAYS; days++) {
            trials.pass(thought, 1);
            if (thought.lost > now.lost) {
                return days;
            }
        }
        return BY_NONE;
    }

    public int note(int suit, int verdict, boolean is) {
        if (!isSuit(suit) || verdict < KEPT || verdict > CRUMBS) {
            return NONE;
        }
        return notes.add(suit, verdict, is, NONE);
    }

    public int out(int note) {
        if (note < 0 || note >= notes.count) {
            return NONE;
        }
        return notes.add(NONE, NONE, false, note);
    }

    public boolean known(int n) {
        if (n < NONE || n > notes.count) {
            return false;
        }
        notes.knownBy = n;
        return true;
    }

    public int levers() {
        notes.findStruck();
        int bits = 0;
        for (int i = 0; i < 10; i++) {
            counsel.thinkFromTextWith(10 * i + 5);
            trials.pass(thought, TOLD_DAYS);
            if (notes.agreeWith(thought)) {
                bits |= 1 << i;
            }
        }
        return bits;
    }

    public int chance(int seed, int n, int gain) {
        if (seed < 0 || n < 1 || n > MOST_DAYS || gain < 0 || gain > MOST_GAIN_ASKED) {
            return NONE;
        }
        counsel.think();
        trials.byChance = true;
        trials.lastDrawn = seed;
        int times = 0;
        for (int i = 0; i < 10; i++) {
            thought.becomeLike(now);
            trials.pass(thought, n);
            if (counsel.gainMore() >= gain) {
                times++;
            }
        }
        return times;
    }

    public int tried(int what, int i, int n) {
        if (what < 0 || what > 5 || n < 0 || n > MOST_DAYS) {
            return NONE;
        }
        if (what == 2 ? !isJudge(i) : i != 0) {
            return NONE;
        }
        counsel.think();
        trials.unworn = what == 1;
        trials.barredJudge = what == 2 ? i : NONE;
        trials.stoneless = what == 3;
        trials.unhalved = what == 4;
        if (what == 5) {
            thought.lever = TOP_LEVER;
        }
        trials.pass(thought, n);
        return counsel.gainMore();
    }

    public int undo() {
        if (deeds.count == 0) {
            return NONE;
        }
        deeds.takeBackLatest(now);
        return deeds.count;
    }

    public int keep() {
        image.becomeLike(now);
        hasImage = true;
        return now.day;
    }

    public int back() {
        if (!hasImage) {
            return NONE;
        }
        now.becomeLike(image);
        deeds.clear();
        return now.day;
    }

    public int count(int what) {
        switch (what) {
            case 0: return plan.judges.count;
            case 1: return plan.nuts.count;
            case 2: return plan.suits.count;
            case 3: return plan.laws.length;
            case 4: return now.day;
            case 5: return now.lever;
            case 6: return verdictsOf(now, KEPT);
            case 7: return verdictsOf(now, WHOLE);
            case 8: return verdictsOf(now, HALVED);
            case 9: return verdictsOf(now, CRUMBS);
            case 10: return trials.gained(now);
            case 11: return worthOfCrumbs();
            case 12: return now.lost;
            case 13: return notes.count;
            case 14: return notes.countConsidered();
            case 15: return deeds.count;
            default: return NONE;
        }
    }

    private void feedFour(int number) {
        for (int shift = 24; shift >= 0 && tapeLength < TAPE_BYTES; shift -= 8) {
            tape[tapeLength] = (byte) (number >> shift);
            tapeLength++;
        }
    }

    private boolean isJudge(int judge) {
        return judge >= 0 && judge < plan.judges.count;
    }

    private boolean isNut(int nut) {
        return nut >= 0 && nut < plan.nuts.count;
    }

    private boolean isSuit(int suit) {
        return suit >= 0 && suit < plan.suits.count;
    }

    private boolean isPending(int suit) {
        return isSuit(suit) && now.verdictOf[suit] == NONE;
    }

    private int verdictWithoutStone(int judge, int nut) {
        if (!isJudge(judge) || !isNut(nut)) {
            return NONE;
        }
        trials.asTheyAre();
        return trials.measured(now, judge, nut, plan.hard[nut]);
    }

    private int verdictNow(int suit) {
        trials.asTheyAre();
        return trials.measured(now, now.judgeOf[suit], plan.nutOf[suit], trials.hardnessOf(now, suit));
    }

    private int triedBy(int judge) {
        int tried = 0;
        for (int suit = 0; suit < plan.suits.count; suit++) {
            if (now.judgeOf[suit] == judge && now.verdictOf[suit] != NONE) {
                tried++;
            }
        }
        return tried;
    }

    private int wholeOnesBy(int judge) {
        int whole = 0;
        for (int suit = 0; suit < plan.suits.count; suit++) {
            if (now.judgeOf[suit] == judge && now.verdictOf[suit] == WHOLE) {
                whole++;
            }
        }
        return whole;
    }

    private int verdictsOf(Court court, int verdict) {
        int found = 0;
        for (int suit = 0; suit < plan.suits.count; suit++) {
            if (court.verdictOf[suit] == verdict) {
                found++;
            }
        }
        return found;
    }

    private int teethOf(Court court) {
        int teeth = 0;
        for (int judge = 0; judge < plan.judges.count; judge++) {
            teeth += court.teeth[judge];
        }
        return teeth;
    }

    private int worthOfCrumbs() {
        int worth = 0;
        for (int suit = 0; suit < plan.suits.count; suit++) {
            if (now.verdictOf[suit] == CRUMBS) {
                worth += plan.worth[plan.nutOf[suit]];
            }
        }
        return worth;
    }

    private boolean areTwins(int first, int second) {
        return plan.nutOf[first] == plan.nutOf[second]
                && now.verdictOf[first] != NONE
                && now.verdictOf[second] != NONE
                && now.verdictOf[first] != now.verdictOf[second];
    }

    private static int commonWithTen(int number) {
        for (int common = 10; common > 1; common--) {
            if (number % common == 0 && 10 % common == 0) {
                return common;
            }
        }
        return 1;
    }

    private static boolean isRest(int first, int second, int verdict, int worth) {
        return shareOfFirst(first, second, verdict, worth) >= shareOfFirst(1 - first, second, verdict, worth)
                && shareOfSecond(first, second, verdict, worth) >= shareOfSecond(first, 1 - second, verdict, worth);
    }

    private static int shareOfFirst(int first, int second, int verdict, int worth) {
        if (first == 0 && second == 0) {
            return worth / 2;
        }
        int won = verdict == WHOLE ? worth : verdict == HALVED ? worth / 2 : 0;
        return won - 5 * first;
    }

    private static int shareOfSecond(int first, int second, int verdict, int worth) {
        if (first == 0 && second == 0) {
            return worth / 2;
        }
        return (verdict == HALVED ? worth / 2 : 0) - 5 * second;
    }

    /** The names of one kind, numbered as they came, each as 30 bits. */
    private static final class Names {
        private final int[] letters;
        private int count;

        Names(int most) {
            letters = new int[most];
        }

        int find(int wanted) {
            for (int i = 0; i < count; i++) {
                if (letters[i] == wanted) {
                    return i;
                }
            }
            return NONE;
        }

        boolean isFull() {
            return count >= letters.length;
        }

        void add(int name) {
            if (count < letters.length) {
                letters[count] = name;
                count++;
            }
        }
    }

    /** The E of all laws as one row of KNOTS, each sign behind its sides, so that no tree is walked. */
    private static final class Laws {
        private final int[] kinds = new int[MOST_KNOTS];
        private final int[] numbers = new int[MOST_KNOTS];
        private final int[] from = new int[LAWS];
        private final int[] to = new int[LAWS];
        private final long[] stack = new long[MOST_KNOTS];
        private int length;

        void clear() {
            length = 0;
            for (int rule = 0; rule < LAWS; rule++) {
                from[rule] = 0;
                to[rule] = 0;
            }
        }

        void add(int kind, int number) {
            if (length < MOST_KNOTS) {
                kinds[length] = kind;
                numbers[length] = number;
                length++;
            }
        }

        boolean isTold(int rule) {
            return to[rule] > from[rule];
        }

        /** ERROR also for a law that isn't told: both are answered by what holds without it. */
        long worked(int rule, long[] names) {
            int height = 0;
            for (int i = from[rule]; i < to[rule]; i++) {
                int kind = kinds[i];
                if (height < sidesOf(kind)) {
                    return ERROR;
                }
                if (kind == NUMBER) {
                    stack[height] = numbers[i];
                    height++;
                } else if (kind >= JAW) {
                    stack[height] = names[kind - JAW];
                    height++;
                } else if (kind == NOT) {
                    stack[height - 1] = stack[height - 1] == 0 ? 1 : 0;
                } else {
                    height--;
                    long value = joined(kind, stack[height - 1], stack[height]);
                    if (value > MOST_VALUE || value < -MOST_VALUE) {
                        return ERROR;
                    }
                    stack[height - 1] = value;
                }
            }
            return height == 1 ? stack[0] : ERROR;
        }

        private static int sidesOf(int kind) {
            return kind == NUMBER || kind >= JAW ? 0 : kind == NOT ? 1 : 2;
        }

        private static long joined(int sign, long left, long right) {
            switch (sign) {
                case PLUS: return left + right;
                case MINUS: return left - right;
                case TIMES: return product(left, right);
                case DIVIDED: return right == 0 ? ERROR : left / right;
                case BELOW: return left < right ? 1 : 0;
                case AT_MOST: return left <= right ? 1 : 0;
                case EQUAL: return left == right ? 1 : 0;
                case UNLIKE: return left != right ? 1 : 0;
                case AT_LEAST: return left >= right ? 1 : 0;
                case ABOVE: return left > right ? 1 : 0;
                case AND: return left != 0 && right != 0 ? 1 : 0;
                case OR: return left != 0 || right != 0 ? 1 : 0;
                default: return ERROR;
            }
        }

        /** Tested by a division first, as two values within the bounds can leave what a long holds. */
        private static long product(long left, long right) {
            long size = left < 0 ? -left : left;
            long otherSize = right < 0 ? -right : right;
            if (size != 0 && otherSize > MOST_VALUE / size) {
                return ERROR;
            }
            return left * right;
        }
    }

    /** What a TEXT tells. */
    private static final class Plan {
        private final Names judges = new Names(MOST_JUDGES);
        private final int[] jaw = new int[MOST_JUDGES];
        private final int[] teeth = new int[MOST_JUDGES];
        private final Names nuts = new Names(MOST_NUTS);
        private final int[] hard = new int[MOST_NUTS];
        private final int[] worth = new int[MOST_NUTS];
        private final int[] bitter = new int[MOST_NUTS];
        private final Names suits = new Names(MOST_SUITS);
        private final int[] judgeOf = new int[MOST_SUITS];
        private final int[] nutOf = new int[MOST_SUITS];
        private final int[] dayOf = new int[MOST_SUITS];
        private final Laws laws = new Laws();
        private int lever = 50;
        private int vacation;
        private boolean leverTold;
        private boolean vacationTold;
        private boolean seedTold;
        private int lines;

        void clear() {
            judges.count = 0;
            nuts.count = 0;
            suits.count = 0;
            laws.clear();
            lever = 50;
            vacation = 0;
            leverTold = false;
            vacationTold = false;
            seedTold = false;
            lines = 0;
        }
    }

    /** Cuts the tape's first bytes into tokens; the one at hand has a kind and a place. */
    private static final class Scan {
        private final byte[] bytes;
        private final int[] words = new int[WORD_COUNT];
        private int length;
        private int at;
        private int kind;
        private int start;
        private int number;
        private int letters;

        Scan(byte[] bytes) {
            this.bytes = bytes;
            int word = 0;
            int shift = 25;
            for (int i = 0; i < WORDS.length() && word < WORD_COUNT; i++) {
                char sign = WORDS.charAt(i);
                if (sign == ' ') {
                    word++;
                    shift = 25;
                } else {
                    words[word] |= (sign - 'a' + 1) << shift;
                    shift -= 5;
                }
            }
        }

        void begin(int bytesToRead) {
            length = bytesToRead < bytes.length ? bytesToRead : bytes.length;
            at = 0;
            next();
        }

        void next() {
            while (at < length && (bytes[at] == 10 || bytes[at] == 32)) {
                at++;
            }
            start = at;
            if (at >= length) {
                kind = END;
            } else if (bytes[at] >= 'a' && bytes[at] <= 'z') {
                readWord();
            } else if (bytes[at] >= '0' && bytes[at] <= '9') {
                readNumber();
            } else {
                readSign(bytes[at]);
            }
        }

        private void readWord() {
            letters = 0;
            while (at < length && bytes[at] >= 'a' && bytes[at] <= 'z') {
                int place = at - start;
                if (place < 6) {
                    letters |= (bytes[at] - 'a' + 1) << (25 - 5 * place);
                }
                at++;
            }
            kind = OWN_WORD;
            for (int word = 0; word < WORD_COUNT; word++) {
                if (words[word] == letters) {
                    kind = FIRST_WORD + word;
                }
            }
            if (at - start > 6) {
                kind = NO_TOKEN;
            }
        }

        /** Stops growing beyond every number that may be told, so that no row of digits wraps round. */
        private void readNumber() {
            number = 0;
            while (at < length && bytes[at] >= '0' && bytes[at] <= '9') {
                if (number <= 99999) {
                    number = 10 * number + bytes[at] - '0';
                }
                at++;
            }
            kind = NUMBER;
        }

        private void readSign(int sign) {
            at++;
            int behind = at < length ? bytes[at] : 0;
            switch (sign) {
                case ';': kind = SEMICOLON; break;
                case '(': kind = OPEN; break;
                case ')': kind = CLOSE; break;
                case '+': kind = PLUS; break;
                case '-': kind = MINUS; break;
                case '*': kind = TIMES; break;
                case '/': kind = DIVIDED; break;
                case '=': kind = EQUAL; break;
                case '<': kind = behind == '=' ? AT_MOST : behind == '>' ? UNLIKE : BELOW; break;
                case '>': kind = behind == '=' ? AT_LEAST : ABOVE; break;
                default: kind = NO_TOKEN;
            }
            if (kind == AT_MOST || kind == UNLIKE || kind == AT_LEAST) {
                at++;
            }
        }
    }

    /**
     * Reads an E into the laws. Signs wait until what binds more closely is there; each fault is that of
     * the token at hand, which is why a KNOT counts when it is read and not when it is added.
     */
    private static final class Formula {
        private final Scan scan;
        /** Long enough: no more than all KNOTS and all '(' that may be open can wait at once. */
        private final int[] waiting = new int[MOST_KNOTS + MOST_OPEN];
        private int waitingCount;
        private int open;
        private int knots;
        private boolean wantsSide;

        Formula(Scan scan) {
            this.scan = scan;
        }

        int readInto(Laws laws, int rule) {
            waitingCount = 0;
            open = 0;
            knots = laws.length;
            wantsSide = true;
            laws.from[rule] = laws.length;
            int fault = 0;
            for (int i = 0; i < TAPE_BYTES && fault == 0 && (wantsSide || goesOn()); i++) {
                fault = wantsSide ? takeSide(laws) : takeSign(laws);
                if (fault == 0) {
                    scan.next();
                }
            }
            if (fault == 0 && open > 0) {
                fault = CANNOT_STAND;
            }
            release(laws, rankOf(OR));
            laws.to[rule] = laws.length;
            return fault;
        }

        private boolean goesOn() {
            return scan.kind == CLOSE ? open > 0 : scan.kind != NOT && rankOf(scan.kind) > 0;
        }

        private int takeSide(Laws laws) {
            int kind = scan.kind;
            if (kind == OPEN) {
                return takeOpen();
            }
            boolean isName = kind >= JAW && kind <= DAY;
            if (kind != NOT && kind != NUMBER && !isName) {
                return CANNOT_STAND;
            }
            if (kind == NOT && waitingCount > 0 && rankOf(waiting[waitingCount - 1]) > rankOf(NOT)) {
                return CANNOT_STAND;
            }
            if (knots >= MOST_KNOTS || kind == NUMBER && scan.number > 9999) {
                return TOO_MUCH;
            }
            knots++;
            if (kind == NOT) {
                hold(NOT);
            } else {
                laws.add(kind, kind == NUMBER ? scan.number : 0);
                wantsSide = false;
            }
            return 0;
        }

        private int takeOpen() {
            if (open >= MOST_OPEN) {
                return TOO_MUCH;
            }
            open++;
            hold(OPEN);
            return 0;
        }

        private void dropOpen() {
            if (waitingCount > 0) {
                waitingCount--;
            }
            open--;
        }

        private int takeSign(Laws laws) {
            int kind = scan.kind;
            if (kind == CLOSE) {
                release(laws, rankOf(OR));
                dropOpen();
                return 0;
            }
            int rank = rankOf(kind);
            boolean compares = rank == rankOf(BELOW);
            release(laws, compares ? rank + 1 : rank);
            if (compares && waitingCount > 0 && rankOf(waiting[waitingCount - 1]) == rank) {
                return CANNOT_STAND;
            }
            if (knots >= MOST_KNOTS) {
                return TOO_MUCH;
            }
            knots++;
            hold(kind);
            wantsSide = true;
            return 0;
        }

        private void hold(int kind) {
            if (waitingCount < waiting.length) {
                waiting[waitingCount] = kind;
                waitingCount++;
            }
        }

        private void release(Laws laws, int leastRank) {
            while (waitingCount > 0 && rankOf(waiting[waitingCount - 1]) >= leastRank) {
                waitingCount--;
                laws.add(waiting[waitingCount], 0);
            }
        }

        /** The closer a sign binds, the higher; 0 for what is no sign between or ahead of sides. */
        private static int rankOf(int kind) {
            switch (kind) {
                case OR: return 1;
                case AND: return 2;
                case NOT: return 3;
                case BELOW: case AT_MOST: case EQUAL: case UNLIKE: case AT_LEAST: case ABOVE: return 4;
                case PLUS: case MINUS: return 5;
                case TIMES: case DIVIDED: return 6;
                default: return 0;
            }
        }
    }

    /** Reads a TEXT. Once there is a fault, nothing is taken any more: its place is the token at hand. */
    private static final class TextReader {
        private final Scan scan;
        private final Formula formula;
        private int fault;

        TextReader(byte[] bytes) {
            scan = new Scan(bytes);
            formula = new Formula(scan);
        }

        int place() {
            return scan.start;
        }

        int readText(Plan told, int length) {
            told.clear();
            fault = 0;
            scan.begin(length);
            for (int i = 0; i < TAPE_BYTES && fault == 0 && scan.kind != END; i++) {
                readLine(told);
                if (fault == 0 && scan.kind != SEMICOLON) {
                    fault = CANNOT_STAND;
                }
                if (fault == 0) {
                    told.lines++;
                    scan.next();
                }
            }
            return fault;
        }

        private void readLine(Plan told) {
            switch (scan.kind) {
                case JUDGE: readJudge(told); break;
                case NUT: readNut(told); break;
                case SUIT: readSuit(told); break;
                case LEVER: readLever(told); break;
                case REST: readVacation(told); break;
                case SEED: readSeed(told); break;
                case LAW: readLaw(told); break;
                default: fault = CANNOT_STAND;
            }
        }

        private void readJudge(Plan told) {
            int judge = told.judges.count;
            takeWord(told.judges.isFull() ? TOO_MUCH : 0);
            int letters = takeNewName(told.judges);
            int jaw = takeNumber(1, 99);
            int teeth = takeNumber(0, 9);
            if (fault == 0) {
                told.judges.add(letters);
                told.jaw[judge] = jaw;
                told.teeth[judge] = teeth;
            }
        }

        private void readNut(Plan told) {
            int nut = told.nuts.count;
            takeWord(told.nuts.isFull() ? TOO_MUCH : 0);
            int letters = takeNewName(told.nuts);
            int hard = takeNumber(0, 99);
            int worth = takeNumber(0, 99);
            int bitter = takeNumber(0, 9);
            if (fault == 0) {
                told.nuts.add(letters);
                told.hard[nut] = hard;
                told.worth[nut] = worth;
                told.bitter[nut] = bitter;
            }
        }

        private void readSuit(Plan told) {
            int suit = told.suits.count;
            takeWord(told.suits.isFull() ? TOO_MUCH : 0);
            int letters = takeNewName(told.suits);
            int judge = takeToldName(told.judges);
            int nut = takeToldName(told.nuts);
            int day = takeNumber(0, TOLD_DAYS - 1);
            if (fault == 0) {
                told.suits.add(letters);
                told.judgeOf[suit] = judge;
                told.nutOf[suit] = nut;
                told.dayOf[suit] = day;
            }
        }

        private void readLever(Plan told) {
            takeWord(told.leverTold ? TOLD_ALREADY : 0);
            told.lever = takeNumber(1, TOP_LEVER);
            told.leverTold = true;
        }

        private void readVacation(Plan told) {
            takeWord(told.vacationTold ? TOLD_ALREADY : 0);
            told.vacation = takeNumber(0, 30);
            told.vacationTold = true;
        }

        /** Read for its faults alone: every call that draws numbers is given a seed of its own. */
        private void readSeed(Plan told) {
            takeWord(told.seedTold ? TOLD_ALREADY : 0);
            takeNumber(0, 99999);
            told.seedTold = true;
        }

        private void readLaw(Plan told) {
            takeWord(0);
            int rule = scan.kind - FORCE;
            if (rule < 0 || rule >= LAWS) {
                fault = CANNOT_STAND;
                return;
            }
            takeWord(told.laws.isTold(rule) ? TOLD_ALREADY : 0);
            if (fault == 0) {
                fault = formula.readInto(told.laws, rule);
            }
        }

        private void takeWord(int wrong) {
            fault = wrong;
            if (fault == 0) {
                scan.next();
            }
        }

        private int takeNewName(Names names) {
            int letters = scan.letters;
            if (fault == 0 && scan.kind != OWN_WORD) {
                fault = CANNOT_STAND;
            }
            if (fault == 0 && names.find(letters) != NONE) {
                fault = TOLD_ALREADY;
            }
            if (fault == 0) {
                scan.next();
            }
            return letters;
        }

        private int takeToldName(Names names) {
            int found = names.find(scan.letters);
            if (fault == 0 && scan.kind != OWN_WORD) {
                fault = CANNOT_STAND;
            }
            if (fault == 0 && found == NONE) {
                fault = NOT_TOLD;
            }
            if (fault == 0) {
                scan.next();
            }
            return found;
        }

        private int takeNumber(int least, int most) {
            int number = scan.number;
            if (fault == 0 && scan.kind != NUMBER) {
                fault = CANNOT_STAND;
            }
            if (fault == 0 && (number < least || number > most)) {
                fault = TOO_MUCH;
            }
            if (fault == 0) {
                scan.next();
            }
            return number;
        }
    }

    /** How all stands on a DAY: the one there is, the IMAGE, or one that is only thought of. */
    private static final class Court {
        private final int[] teeth = new int[MOST_JUDGES];
        private final int[] judgeOf = new int[MOST_SUITS];
        private final int[] dayOf = new int[MOST_SUITS];
        private final int[] verdictOf = new int[MOST_SUITS];
        private int stones;
        private int day;
        private int lever;
        private int lost;

        void beginAsTold(Plan told) {
            stones = 0;
            day = 0;
            lever = told.lever;
            lost = 0;
            System.arraycopy(told.teeth, 0, teeth, 0, MOST_JUDGES);
            System.arraycopy(told.judgeOf, 0, judgeOf, 0, MOST_SUITS);
            System.arraycopy(told.dayOf, 0, dayOf, 0, MOST_SUITS);
            for (int suit = 0; suit < MOST_SUITS; suit++) {
                verdictOf[suit] = NONE;
            }
        }

        boolean hasStone(int suit) {
            return (stones >> suit & 1) == 1;
        }

        void becomeLike(Court other) {
            stones = other.stones;
            day = other.day;
            lever = other.lever;
            lost = other.lost;
            System.arraycopy(other.teeth, 0, teeth, 0, MOST_JUDGES);
            System.arraycopy(other.judgeOf, 0, judgeOf, 0, MOST_SUITS);
            System.arraycopy(other.dayOf, 0, dayOf, 0, MOST_SUITS);
            System.arraycopy(other.verdictOf, 0, verdictOf, 0, MOST_SUITS);
        }
    }

    /** Tries suits, as they are or otherwise: whatever is said of a day, real or thought of, comes from here. */
    private static final class Trials {
        private final long[] names = new long[NAMES];
        private final int[] load = new int[MOST_JUDGES];
        private Plan plan;
        private int force;
        private int slack;
        private int vacationLever;
        private boolean unworn;
        private boolean unhalved;
        private boolean stoneless;
        private int barredJudge;
        private boolean byChance;
        private long lastDrawn;

        Trials(Plan plan) {
            this.plan = plan;
        }

        void asTheyAre() {
            vacationLever = plan.lever;
            unworn = false;
            unhalved = false;
            stoneless = false;
            barredJudge = NONE;
            byChance = false;
            clearLoad();
        }

        void clearLoad() {
            for (int judge = 0; judge < MOST_JUDGES; judge++) {
                load[judge] = 0;
            }
        }

        /** Leaps from one DAY with suits to the next one: on those between nothing but a vacation can come. */
        void pass(Court court, int days) {
            int end = court.day + days;
            for (int i = 0; i <= MOST_SUITS && court.day < end; i++) {
                moveTo(court, nextDayWithSuits(court, end));
                if (court.day < end) {
                    clearLoad();
                    for (int suit = 0; suit < plan.suits.count; suit++) {
                        if (court.dayOf[suit] == court.day && isOpen(court, suit)) {
                            tryOne(court, suit);
                        }
                    }
                    moveTo(court, court.day + 1);
                }
            }
        }

        boolean isOpen(Court court, int suit) {
            return court.verdictOf[suit] == NONE && court.judgeOf[suit] != barredJudge;
        }

        private int nextDayWithSuits(Court court, int end) {
            int next = end;
            for (int suit = 0; suit < plan.suits.count; suit++) {
                int day = court.dayOf[suit];
                if (day >= court.day && day < next && isOpen(court, suit)) {
                    next = day;
                }
            }
            return next;
        }

        private void moveTo(Court court, int day) {
            if (plan.vacation > 0 && day / plan.vacation > court.day / plan.vacation) {
                court.lever = vacationLever;
                System.arraycopy(plan.teeth, 0, court.teeth, 0, MOST_JUDGES);
            }
            court.day = day;
        }

        void tryOne(Court court, int suit) {
            int judge = court.judgeOf[suit];
            int hardness = hardnessOf(court, suit) + (byChance ? drawn() % 10 : 0);
            int verdict = measured(court, judge, plan.nutOf[suit], hardness);
            court.verdictOf[suit] = verdict;
            load[judge]++;
            if (verdict != KEPT) {
                wear(court, judge);
            } else if (hardness - force >= 2 * slack && court.teeth[judge] > 0) {
                court.teeth[judge]--;
                court.lost++;
            }
        }

        int hardnessOf(Court court, int suit) {
            int hard = plan.hard[plan.nutOf[suit]];
            return court.hasStone(suit) && !stoneless ? hard + 30 : hard;
        }

        private int drawn() {
            lastDrawn = (lastDrawn * 1103515245L + 12345L) & 0x7fffffffL;
            return (int) (lastDrawn / 65536L);
        }

        /** The VERDICT; what it came from stays in names, force and slack. */
        int measured(Court court, int judge, int nut, int hardness) {
            names[JAW - JAW] = plan.jaw[judge];
            names[TEETH - JAW] = court.teeth[judge];
            names[HARD - JAW] = hardness;
            names[BITTER - JAW] = plan.bitter[nut];
            names[LEVER - JAW] = court.lever;
            names[LOAD - JAW] = load[judge];
            names[DAY - JAW] = court.day;
            long byLaw = plan.laws.worked(FORCE_LAW, names);
            force = byLaw == ERROR ? plan.jaw[judge] * court.lever / 50 : within(byLaw, 0, 999);
            if (court.teeth[judge] == 0 && !unhalved) {
                force /= 2;
            }
            byLaw = plan.laws.worked(SLACK_LAW, names);
            slack = byLaw == ERROR ? 10 : within(byLaw, 1, 99);
            if (force < hardness) {
                return KEPT;
            }
            int more = force - hardness;
            return more < slack ? WHOLE : more < 2 * slack ? HALVED : CRUMBS;
        }

        /** Uses the names as they were measured, but for the load, which has this suit too. */
        private void wear(Court court, int judge) {
            if (unworn) {
                return;
            }
            names[LOAD - JAW] = load[judge];
            long byLaw = plan.laws.worked(WEAR_LAW, names);
            court.lever -= byLaw == ERROR ? 1 : within(byLaw, 0, 9);
            if (court.lever < 1) {
                court.lever = 1;
            }
        }

        private static int within(long value, int least, int most) {
            return value < least ? least : value > most ? most : (int) value;
        }

        int gainOf(Court court, int suit) {
            int worth = plan.worth[plan.nutOf[suit]];
            int verdict = court.verdictOf[suit];
            return verdict == WHOLE ? worth : verdict == HALVED ? worth / 2 : 0;
        }

        int gained(Court court) {
            int gain = 0;
            for (int suit = 0; suit < plan.suits.count; suit++) {
                gain += gainOf(court, suit);
            }
            return gain;
        }
    }

    /** Seeks among days that are thought of. */
    private static final class Counsel {
        private final Trials trials;
        private final Court now;
        private final Court thought;
        private final int[] suits = new int[MOST_SUITS];
        private final int[] row = new int[5];
        private final int[] bestRow = new int[5];
        private int rowLength;
        private int bestGain;

        Counsel(Trials trials, Court now, Court thought) {
            this.trials = trials;
            this.now = now;
            this.thought = thought;
        }

        void think() {
            trials.asTheyAre();
            thought.becomeLike(now);
        }

        void thinkFromTextWith(int lever) {
            trials.asTheyAre();
            trials.vacationLever = lever;
            thought.beginAsTold(trials.plan);
            thought.lever = lever;
        }

        int gainMore() {
            return trials.gained(thought) - trials.gained(now);
        }

        /** Rows of judges come in their order, so that the first of several is met first. */
        void seekDeal(int days) {
            int judges = trials.plan.judges.count;
            rowLength = 0;
            for (int suit = 0; suit < trials.plan.suits.count && rowLength < 4; suit++) {
                if (now.verdictOf[suit] == NONE) {
                    suits[rowLength] = suit;
                    row[rowLength] = 0;
                    rowLength++;
                }
            }
            bestGain = -1;
            boolean more = true;
            for (int i = 0; i < 256 && more; i++) {
                think();
                for (int k = 0; k < rowLength; k++) {
                    thought.judgeOf[suits[k]] = row[k];
                }
                trials.pass(thought, days);
                keepIfBetter();
                more = nextDeal(judges, now.day + days);
            }
        }

        /** A suit that isn't tried in these days stays with the first judge: it changes no gain. */
        private boolean nextDeal(int judges, int end) {
            for (int k = rowLength - 1; k >= 0; k--) {
                if (now.dayOf[suits[k]] < end) {
                    row[k]++;
                    if (row[k] < judges) {
                        return true;
                    }
                    row[k] = 0;
                }
            }
            return false;
        }

        private void keepIfBetter() {
            int gain = gainMore();
            if (gain > bestGain) {
                bestGain = gain;
                System.arraycopy(row, 0, bestRow, 0, rowLength);
            }
        }

        void seekOrder() {
            rowLength = 0;
            for (int suit = 0; suit < trials.plan.suits.count && rowLength < 5; suit++) {
                if (now.verdictOf[suit] == NONE && now.dayOf[suit] == now.day) {
                    row[rowLength] = suit;
                    rowLength++;
                }
            }
            bestGain = -1;
            boolean more = true;
            for (int i = 0; i < 120 && more; i++) {
                think();
                for (int k = 0; k < rowLength; k++) {
                    trials.tryOne(thought, row[k]);
                }
                for (int suit = 0; suit < trials.plan.suits.count; suit++) {
                    if (thought.verdictOf[suit] == NONE && thought.dayOf[suit] == now.day) {
                        trials.tryOne(thought, suit);
                    }
                }
                keepIfBetter();
                more = nextOrder();
            }
        }

        /** The next row by numbers of the same suits; false behind the last one. */
        private boolean nextOrder() {
            int rise = rowLength - 2;
            while (rise >= 0 && row[rise] > row[rise + 1]) {
                rise--;
            }
            if (rise < 0) {
                return false;
            }
            int higher = rowLength - 1;
            while (higher > rise + 1 && row[higher] < row[rise]) {
                higher--;
            }
            swap(rise, higher);
            int low = rise + 1;
            int high = rowLength - 1;
            while (low < high) {
                swap(low, high);
                low++;
                high--;
            }
            return true;
        }

        private void swap(int one, int other) {
            int kept = row[one];
            row[one] = row[other];
            row[other] = kept;
        }

        /** Stones in suits that aren't tried in these days change nothing: the fewest have none of them. */
        int fewestStones(int days, int bound) {
            int found = 0;
            for (int suit = 0; suit < trials.plan.suits.count; suit++) {
                boolean mayHaveOne = now.verdictOf[suit] == NONE && !now.hasStone(suit);
                if (mayHaveOne && now.dayOf[suit] < now.day + days) {
                    suits[found] = suit;
                    found++;
                }
            }
            for (int stones = 0; stones <= found; stones++) {
                for (int chosen = 0; chosen < 1 << found; chosen++) {
                    if (Integer.bitCount(chosen) == stones) {
                        think();
                        thought.stones |= bitsOfSuits(chosen, found);
                        trials.pass(thought, days);
                        if (gainMore() <= bound) {
                            return bitsOfSuits(chosen, found);
                        }
                    }
                }
            }
            return BY_NONE;
        }

        private int bitsOfSuits(int chosen, int found) {
            int bits = 0;
            for (int k = 0; k < found; k++) {
                if ((chosen >> k & 1) == 1) {
                    bits |= 1 << suits[k];
                }
            }
            return bits;
        }
    }

    /** NOTES, and those that strike others; what a text's own course says is asked of them. */
    private static final class Notes {
        private final int[] suit = new int[MOST_NOTES];
        private final int[] verdict = new int[MOST_NOTES];
        private final boolean[] is = new boolean[MOST_NOTES];
        private final int[] strikes = new int[MOST_NOTES];
        private final boolean[] struck = new boolean[MOST_NOTES];
        private int count;
        private int knownBy = NONE;

        void clear() {
            count = 0;
            knownBy = NONE;
        }

        int add(int ofSuit, int hadVerdict, boolean so, int strikesNote) {
            if (count >= MOST_NOTES) {
                return NONE;
            }
            suit[count] = ofSuit;
            verdict[count] = hadVerdict;
            is[count] = so;
            strikes[count] = strikesNote;
            count++;
            return count - 1;
        }

        int countConsidered() {
            return knownBy == NONE ? count : knownBy;
        }

        /** From the last one on, as only a later note can say whether one that strikes counts. */
        void findStruck() {
            for (int note = 0; note < MOST_NOTES; note++) {
                struck[note] = false;
            }
            for (int note = countConsidered() - 1; note >= 0; note--) {
                if (!struck[note] && strikes[note] != NONE) {
                    struck[strikes[note]] = true;
                }
            }
        }

        boolean agreeWith(Court court) {
            for (int note = 0; note < countConsidered(); note++) {
                boolean says = !struck[note] && strikes[note] == NONE;
                if (says && (court.verdictOf[suit[note]] == verdict[note]) != is[note]) {
                    return false;
                }
            }
            return true;
        }
    }

    /** What was done by call since the last DAY went by, each with what was there ahead of it. */
    private static final class Deeds {
        private final int[] kinds = new int[MOST_DEEDS];
        private final int[] suits = new int[MOST_DEEDS];
        private final int[] before = new int[MOST_DEEDS];
        private int count;

        void clear() {
            count = 0;
        }

        void add(int kind, int suit, int was) {
            if (count == MOST_DEEDS) {
                forgetFirst();
            }
            kinds[count] = kind;
            suits[count] = suit;
            before[count] = was;
            count++;
        }

        private void forgetFirst() {
            count--;
            System.arraycopy(kinds, 1, kinds, 0, count);
            System.arraycopy(suits, 1, suits, 0, count);
            System.arraycopy(before, 1, before, 0, count);
        }

        void takeBackLatest(Court court) {
            if (count == 0) {
                return;
            }
            count--;
            int suit = suits[count];
            switch (kinds[count]) {
                case GIVING: court.judgeOf[suit] = before[count]; break;
                case STONING: court.stones = before[count]; break;
                case PUTTING: court.dayOf[suit] = before[count]; break;
                default: court.lever = before[count];
            }
        }
    }
}
