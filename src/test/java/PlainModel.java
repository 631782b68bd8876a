import java.math.BigInteger;
import java.util.ArrayDeque;
import java.util.ArrayList;
import java.util.Deque;
import java.util.HashMap;
import java.util.List;
import java.util.Map;
import java.util.NoSuchElementException;

/**
 * The document read a second time, word for word and without regard to cost: trees walked, DAYS gone
 * through one by one, all rows tried. TestModel holds JawBench against it.
 */
final class PlainModel {
    static final List<String> LANGUAGE = List.of("judge", "nut", "suit", "lever", "rest", "seed", "law", "force",
            "slack", "wear", "or", "and", "not", "jaw", "teeth", "hard", "bitter", "load", "day");
    static final List<String> NAMES = List.of("jaw", "teeth", "hard", "bitter", "lever", "load", "day");
    static final List<String> RULES = List.of("force", "slack", "wear");
    static final BigInteger MOST = BigInteger.TEN.pow(12);

    static final class Fault extends RuntimeException {
        final int which;
        final int place;

        Fault(int which, int place) {
            this.which = which;
            this.place = place;
        }
    }

    static final class Broken extends Exception {
    }

    interface Node {
        BigInteger value(Map<String, Integer> names) throws Broken;
    }

    record Judge(String name, int jaw, int teeth) {
    }

    record Nut(String name, int hard, int worth, int bitter) {
    }

    record Told(String name, int judge, int nut, int day) {
    }

    record Token(String type, String text, int place) {
    }

    static final class Text {
        final List<Judge> judges = new ArrayList<>();
        final List<Nut> nuts = new ArrayList<>();
        final List<Told> suits = new ArrayList<>();
        final Map<String, Node> laws = new HashMap<>();
        Integer lever;
        Integer rest;
        Integer seed;
        int knots;
        int lines;

        int leverTold() {
            return lever == null ? 50 : lever;
        }
    }

    /** Reads one TEXT. */
    static final class Reading {
        final List<Token> tokens = new ArrayList<>();
        final Text told = new Text();
        int at;
        int open;

        Reading(String bytes) {
            int i = 0;
            while (i < bytes.length()) {
                char c = bytes.charAt(i);
                int j = i + 1;
                if (c == ' ' || c == '\n') {
                    i++;
                    continue;
                }
                String type;
                if (letter(c)) {
                    while (j < bytes.length() && letter(bytes.charAt(j))) {
                        j++;
                    }
                    String word = bytes.substring(i, j);
                    type = LANGUAGE.contains(word) ? word : j - i <= 6 ? "W" : "bad";
                } else if (digit(c)) {
                    while (j < bytes.length() && digit(bytes.charAt(j))) {
                        j++;
                    }
                    type = "N";
                } else {
                    String two = bytes.substring(i, Math.min(i + 2, bytes.length()));
                    if (two.equals("<=") || two.equals(">=") || two.equals("<>")) {
                        j = i + 2;
                    }
                    type = ";()+-*/<=>".indexOf(c) >= 0 ? bytes.substring(i, j) : "bad";
                }
                tokens.add(new Token(type, bytes.substring(i, j), i));
                i = j;
            }
            tokens.add(new Token("end", "", bytes.length()));
        }

        static boolean letter(char c) {
            return c >= 'a' && c <= 'z';
        }

        static boolean digit(char c) {
            return c >= '0' && c <= '9';
        }

        Token now() {
            return tokens.get(at);
        }

        boolean sees(String... types) {
            return List.of(types).contains(now().type());
        }

        Token take(String... types) {
            if (!sees(types)) {
                throw new Fault(1, now().place());
            }
            return tokens.get(at++);
        }

        int number(int least, int most) {
            Token t = take("N");
            BigInteger n = new BigInteger(t.text());
            if (n.compareTo(BigInteger.valueOf(least)) < 0 || n.compareTo(BigInteger.valueOf(most)) > 0) {
                throw new Fault(2, t.place());
            }
            return n.intValue();
        }

        String newName(List<String> there) {
            Token t = take("W");
            if (there.contains(t.text())) {
                throw new Fault(3, t.place());
            }
            return t.text();
        }

        int toldName(List<String> there) {
            Token t = take("W");
            if (!there.contains(t.text())) {
                throw new Fault(4, t.place());
            }
            return there.indexOf(t.text());
        }

        void refuse(boolean wrong, int which, Token t) {
            if (wrong) {
                throw new Fault(which, t.place());
            }
        }

        Text read() {
            while (!sees("end")) {
                line();
                take(";");
                told.lines++;
            }
            return told;
        }

        void line() {
            Token word = take("judge", "nut", "suit", "lever", "rest", "seed", "law");
            List<String> judges = told.judges.stream().map(Judge::name).toList();
            List<String> nuts = told.nuts.stream().map(Nut::name).toList();
            List<String> suits = told.suits.stream().map(Told::name).toList();
            switch (word.type()) {
                case "judge" -> {
                    refuse(judges.size() == 4, 2, word);
                    told.judges.add(new Judge(newName(judges), number(1, 99), number(0, 9)));
                }
                case "nut" -> {
                    refuse(nuts.size() == 6, 2, word);
                    told.nuts.add(new Nut(newName(nuts), number(0, 99), number(0, 99), number(0, 9)));
                }
                case "suit" -> {
                    refuse(suits.size() == 10, 2, word);
                    told.suits.add(new Told(newName(suits), toldName(judges), toldName(nuts), number(0, 99)));
                }
                case "lever" -> {
                    refuse(told.lever != null, 3, word);
                    told.lever = number(1, 99);
                }
                case "rest" -> {
                    refuse(told.rest != null, 3, word);
                    told.rest = number(0, 30);
                }
                case "seed" -> {
                    refuse(told.seed != null, 3, word);
                    told.seed = number(0, 99999);
                }
                default -> {
                    Token rule = take("force", "slack", "wear");
                    refuse(told.laws.containsKey(rule.type()), 3, rule);
                    told.laws.put(rule.type(), either());
                }
            }
        }

        Token knot(String... types) {
            Token t = take(types);
            told.knots++;
            refuse(told.knots > 64, 2, t);
            return t;
        }

        Node either() {
            Node left = both();
            while (sees("or")) {
                left = sign(knot("or"), left, both());
            }
            return left;
        }

        Node both() {
            Node left = denied();
            while (sees("and")) {
                left = sign(knot("and"), left, denied());
            }
            return left;
        }

        Node denied() {
            if (sees("not")) {
                knot("not");
                Node of = denied();
                return names -> of.value(names).signum() == 0 ? BigInteger.ONE : BigInteger.ZERO;
            }
            Node left = sum();
            if (sees("<", "<=", "=", "<>", ">=", ">")) {
                return sign(knot("<", "<=", "=", "<>", ">=", ">"), left, sum());
            }
            return left;
        }

        Node sum() {
            Node left = term();
            while (sees("+", "-")) {
                left = sign(knot("+", "-"), left, term());
            }
            return left;
        }

        Node term() {
            Node left = part();
            while (sees("*", "/")) {
                left = sign(knot("*", "/"), left, part());
            }
            return left;
        }

        Node part() {
            if (sees("(")) {
                Token t = take("(");
                open++;
                refuse(open > 8, 2, t);
                Node inner = either();
                take(")");
                open--;
                return inner;
            }
            if (sees("N")) {
                Token t = knot("N");
                BigInteger n = new BigInteger(t.text());
                refuse(n.compareTo(BigInteger.valueOf(9999)) > 0, 2, t);
                return names -> n;
            }
            Token t = knot(NAMES.toArray(new String[0]));
            return names -> BigInteger.valueOf(names.get(t.type()));
        }

        static Node sign(Token t, Node left, Node right) {
            return names -> {
                BigInteger a = left.value(names);
                BigInteger b = right.value(names);
                int c = a.compareTo(b);
                BigInteger v = switch (t.type()) {
                    case "+" -> a.add(b);
                    case "-" -> a.subtract(b);
                    case "*" -> a.multiply(b);
                    case "/" -> {
                        if (b.signum() == 0) {
                            throw new Broken();
                        }
                        yield a.divide(b);
                    }
                    case "<" -> bit(c < 0);
                    case "<=" -> bit(c <= 0);
                    case "=" -> bit(c == 0);
                    case "<>" -> bit(c != 0);
                    case ">=" -> bit(c >= 0);
                    case ">" -> bit(c > 0);
                    case "and" -> bit(a.signum() != 0 && b.signum() != 0);
                    default -> bit(a.signum() != 0 || b.signum() != 0);
                };
                if (v.abs().compareTo(MOST) > 0) {
                    throw new Broken();
                }
                return v;
            };
        }

        static BigInteger bit(boolean is) {
            return is ? BigInteger.ONE : BigInteger.ZERO;
        }
    }

    static final class Case {
        int judge;
        int nut;
        int day;
        boolean stone;
        int verdict = -1;
    }

    /** How it stands; goes on day by day, with what is otherwise set on it. */
    static final class World {
        Text text;
        int day;
        int lever;
        int leverTold;
        int[] teeth;
        int lost;
        int mouse;
        int gain;
        int[] load;
        final List<Case> cases = new ArrayList<>();
        int otherwise;
        int barred = -1;
        long[] stream;

        static World start(Text text, int leverTold) {
            World w = new World();
            w.text = text;
            w.lever = leverTold;
            w.leverTold = leverTold;
            w.teeth = text.judges.stream().mapToInt(Judge::teeth).toArray();
            w.load = new int[w.teeth.length];
            for (Told t : text.suits) {
                Case c = new Case();
                c.judge = t.judge();
                c.nut = t.nut();
                c.day = t.day();
                w.cases.add(c);
            }
            return w;
        }

        World copy() {
            World w = start(text, leverTold);
            w.day = day;
            w.lever = lever;
            w.teeth = teeth.clone();
            w.lost = lost;
            w.mouse = mouse;
            w.gain = gain;
            for (int i = 0; i < cases.size(); i++) {
                w.cases.get(i).judge = cases.get(i).judge;
                w.cases.get(i).day = cases.get(i).day;
                w.cases.get(i).stone = cases.get(i).stone;
                w.cases.get(i).verdict = cases.get(i).verdict;
            }
            return w;
        }

        long worked(String rule, int judge, int nut, int hardness) {
            Node law = text.laws.get(rule);
            if (law == null) {
                return Long.MIN_VALUE;
            }
            Map<String, Integer> names = new HashMap<>();
            names.put("jaw", text.judges.get(judge).jaw());
            names.put("teeth", teeth[judge]);
            names.put("hard", hardness);
            names.put("bitter", text.nuts.get(nut).bitter());
            names.put("lever", lever);
            names.put("load", load[judge]);
            names.put("day", day);
            try {
                return law.value(names).longValueExact();
            } catch (Broken e) {
                return Long.MIN_VALUE;
            }
        }

        int force(int judge, int nut, int hardness) {
            long e = worked("force", judge, nut, hardness);
            int f = e == Long.MIN_VALUE ? text.judges.get(judge).jaw() * lever / 50
                    : (int) Math.max(0, Math.min(999, e));
            return teeth[judge] == 0 && otherwise != 4 ? f / 2 : f;
        }

        int slack(int judge, int nut, int hardness) {
            long e = worked("slack", judge, nut, hardness);
            return e == Long.MIN_VALUE ? 10 : (int) Math.max(1, Math.min(99, e));
        }

        int verdict(int judge, int nut, int hardness) {
            int f = force(judge, nut, hardness);
            int s = slack(judge, nut, hardness);
            if (f < hardness) {
                return 0;
            }
            return f - hardness < s ? 1 : f - hardness < 2 * s ? 2 : 3;
        }

        int hardness(Case c) {
            return text.nuts.get(c.nut).hard() + (c.stone && otherwise != 3 ? 30 : 0);
        }

        void tryIt(Case c) {
            int h = hardness(c);
            if (stream != null) {
                stream[0] = (stream[0] * 1103515245L + 12345L) % (1L << 31);
                h += (int) (stream[0] / 65536 % 10);
            }
            int worth = text.nuts.get(c.nut).worth();
            int f = force(c.judge, c.nut, h);
            int s = slack(c.judge, c.nut, h);
            c.verdict = verdict(c.judge, c.nut, h);
            load[c.judge]++;
            if (c.verdict == 0 && h >= f + 2 * s && teeth[c.judge] > 0) {
                teeth[c.judge]--;
                lost++;
            }
            if (c.verdict != 0 && otherwise != 1) {
                long e = worked("wear", c.judge, c.nut, h);
                lever = Math.max(1, lever - (e == Long.MIN_VALUE ? 1 : (int) Math.max(0, Math.min(9, e))));
            }
            gain += c.verdict == 1 ? worth : c.verdict == 2 ? worth / 2 : 0;
            mouse += c.verdict == 3 ? worth : 0;
        }

        World days(int n) {
            for (int i = 0; i < n; i++) {
                for (Case c : cases) {
                    if (c.day == day && c.verdict == -1 && c.judge != barred) {
                        tryIt(c);
                    }
                }
                load = new int[load.length];
                day++;
                int rest = text.rest == null ? 0 : text.rest;
                if (rest != 0 && day % rest == 0) {
                    lever = leverTold;
                    teeth = text.judges.stream().mapToInt(Judge::teeth).toArray();
                }
            }
            return this;
        }

        int number(int verdict) {
            return (int) cases.stream().filter(c -> c.verdict == verdict).count();
        }
    }

    record Note(int suit, int verdict, boolean is, int strikes) {
    }

    StringBuilder tape = new StringBuilder();
    Text text = new Text();
    World w = World.start(text, 50);
    World image;
    Deque<World> earlier = new ArrayDeque<>();
    List<Note> notes = new ArrayList<>();
    int knownBy = -1;
    int fault;
    int place = -1;

    public int feed(int a, int b, int c, int d, int e) {
        if (tape.length() + 20 > 700) {
            return -1;
        }
        for (int x : new int[] {a, b, c, d, e}) {
            tape.append((char) (x >>> 24)).append((char) (x >>> 16 & 255));
            tape.append((char) (x >>> 8 & 255)).append((char) (x & 255));
        }
        return tape.length();
    }

    public int text(int n) {
        if (n < 0 || n > tape.length()) {
            return -2;
        }
        String bytes = tape.substring(0, n);
        tape = new StringBuilder();
        try {
            text = new Reading(bytes).read();
        } catch (Fault f) {
            fault = f.which;
            place = f.place;
            return -1;
        }
        fault = 0;
        place = -1;
        w = World.start(text, text.leverTold());
        image = null;
        earlier.clear();
        notes.clear();
        knownBy = -1;
        return text.lines;
    }

    public int fault(int what) {
        return what == 0 ? fault : what == 1 ? place : -1;
    }

    public int named(int what, int letters) {
        List<String> names = what == 0 ? text.judges.stream().map(Judge::name).toList()
                : what == 1 ? text.nuts.stream().map(Nut::name).toList()
                : what == 2 ? text.suits.stream().map(Told::name).toList() : List.of();
        for (int i = 0; i < names.size(); i++) {
            if (Check.letters(names.get(i)) == letters) {
                return i;
            }
        }
        return -1;
    }

    boolean isSuit(int suit) {
        return suit >= 0 && suit < w.cases.size();
    }

    boolean isJudge(int judge) {
        return judge >= 0 && judge < text.judges.size();
    }

    boolean isNut(int nut) {
        return nut >= 0 && nut < text.nuts.size();
    }

    boolean isOpen(int suit) {
        return isSuit(suit) && w.cases.get(suit).verdict == -1;
    }

    int worth(int suit) {
        return text.nuts.get(w.cases.get(suit).nut).worth();
    }

    public int suit(int suit, int what) {
        if (!isSuit(suit)) {
            throw new IndexOutOfBoundsException();
        }
        Case c = w.cases.get(suit);
        return switch (what) {
            case 0 -> c.judge;
            case 1 -> c.nut;
            case 2 -> c.day;
            case 3 -> c.stone ? 1 : 0;
            case 4 -> c.verdict;
            case 5 -> c.verdict == 1 ? worth(suit) : c.verdict == 2 ? worth(suit) / 2 : 0;
            default -> throw new NoSuchElementException();
        };
    }

    public int judge(int judge, int what) {
        if (!isJudge(judge)) {
            return -1;
        }
        return switch (what) {
            case 0 -> text.judges.get(judge).jaw();
            case 1 -> w.teeth[judge];
            case 2 -> (int) w.cases.stream().filter(c -> c.judge == judge && c.verdict >= 0).count();
            case 3 -> (int) w.cases.stream().filter(c -> c.judge == judge && c.verdict == 1).count();
            default -> -1;
        };
    }

    public int nut(int nut, int what) {
        if (!isNut(nut)) {
            return -1;
        }
        Nut n = text.nuts.get(nut);
        return what == 0 ? n.hard() : what == 1 ? n.worth() : what == 2 ? n.bitter() : -1;
    }

    public int force(int judge, int nut) {
        return isJudge(judge) && isNut(nut) ? w.force(judge, nut, text.nuts.get(nut).hard()) : -1;
    }

    public int slack(int judge, int nut) {
        return isJudge(judge) && isNut(nut) ? w.slack(judge, nut, text.nuts.get(nut).hard()) : -1;
    }

    public int verdict(int judge, int nut) {
        return isJudge(judge) && isNut(nut) ? w.verdict(judge, nut, text.nuts.get(nut).hard()) : -1;
    }

    public long law(int what, int judge, int nut) {
        if (what < 0 || what > 2 || !isJudge(judge) || !isNut(nut)) {
            return Long.MIN_VALUE;
        }
        return w.worked(RULES.get(what), judge, nut, text.nuts.get(nut).hard());
    }

    void remember() {
        earlier.addLast(w.copy());
        if (earlier.size() > 20) {
            earlier.removeFirst();
        }
    }

    public boolean give(int suit, int judge) {
        if (!isOpen(suit) || !isJudge(judge) || w.cases.get(suit).judge == judge) {
            return false;
        }
        remember();
        w.cases.get(suit).judge = judge;
        return true;
    }

    public boolean stone(int suit, boolean is) {
        if (!isOpen(suit) || w.cases.get(suit).stone == is) {
            return false;
        }
        remember();
        w.cases.get(suit).stone = is;
        return true;
    }

    public boolean put(int suit, int day) {
        if (!isOpen(suit) || day < w.day || day > 9999 || w.cases.get(suit).day == day) {
            return false;
        }
        remember();
        w.cases.get(suit).day = day;
        return true;
    }

    public int oil(int much) {
        if (much < 1 || much > 98 || w.lever + much > 99) {
            return -1;
        }
        remember();
        w.lever += much;
        return w.lever;
    }

    public int go(int n) {
        if (n < 0 || n > 99 || w.day + n > 9900) {
            return -1;
        }
        if (n > 0) {
            earlier.clear();
        }
        w.days(n);
        return w.day;
    }

    public int ahead(int n, int what) {
        if (n < 0 || n > 99 || what < 0 || what > 6) {
            return -1;
        }
        World then = w.copy().days(n);
        return switch (what) {
            case 4 -> then.gain - w.gain;
            case 5 -> then.lever;
            case 6 -> {
                int all = 0;
                for (int t : then.teeth) {
                    all += t;
                }
                yield all;
            }
            default -> then.number(what) - w.number(what);
        };
    }

    int bestGain;
    int[] best;

    void dealFrom(int k, List<Integer> suits, int[] row, int n) {
        if (k == suits.size()) {
            World then = w.copy();
            for (int i = 0; i < k; i++) {
                then.cases.get(suits.get(i)).judge = row[i];
            }
            consider(then.days(n).gain - w.gain, row);
            return;
        }
        for (int j = 0; j < text.judges.size(); j++) {
            row[k] = j;
            dealFrom(k + 1, suits, row, n);
        }
    }

    void consider(int gain, int[] row) {
        if (gain > bestGain) {
            bestGain = gain;
            best = row.clone();
        }
    }

    public int deal(int n, int what) {
        if (n < 1 || n > 60 || what < 0 || what > 4 || text.judges.isEmpty()) {
            return -1;
        }
        List<Integer> suits = new ArrayList<>();
        for (int s = 0; s < w.cases.size(); s++) {
            if (isOpen(s) && suits.size() < 4) {
                suits.add(s);
            }
        }
        bestGain = -1;
        dealFrom(0, suits, new int[suits.size()], n);
        return what == 4 ? bestGain : what < suits.size() ? best[what] : -2;
    }

    void orderFrom(int k, List<Integer> suits, int[] row) {
        if (k == suits.size()) {
            World then = w.copy();
            for (int s : row) {
                then.tryIt(then.cases.get(s));
            }
            for (Case c : then.cases) {
                if (c.day == then.day && c.verdict == -1) {
                    then.tryIt(c);
                }
            }
            consider(then.gain - w.gain, row);
            return;
        }
        for (int s : suits) {
            boolean there = false;
            for (int i = 0; i < k; i++) {
                there |= row[i] == s;
            }
            if (!there) {
                row[k] = s;
                orderFrom(k + 1, suits, row);
            }
        }
    }

    public int order(int what) {
        if (what < 0 || what > 5) {
            return -1;
        }
        List<Integer> suits = new ArrayList<>();
        for (int s = 0; s < w.cases.size(); s++) {
            if (isOpen(s) && w.cases.get(s).day == w.day && suits.size() < 5) {
                suits.add(s);
            }
        }
        bestGain = -1;
        orderFrom(0, suits, new int[suits.size()]);
        return what == 5 ? bestGain : what < suits.size() ? best[what] : -2;
    }

    public int enough(int judge, int nut) {
        if (!isJudge(judge) || !isNut(nut)) {
            return -1;
        }
        for (int lever = 1; lever <= 99; lever++) {
            World then = w.copy();
            then.lever = lever;
            if (then.verdict(judge, nut, text.nuts.get(nut).hard()) == 1) {
                return lever;
            }
        }
        return -2;
    }

    public int spoil(int n, int bound) {
        if (n < 1 || n > 60 || bound < 0 || bound > 999) {
            return -1;
        }
        int found = -2;
        for (int bits = 0; bits < 1 << w.cases.size(); bits++) {
            World then = w.copy();
            boolean fits = true;
            for (int s = 0; s < w.cases.size(); s++) {
                if ((bits >> s & 1) == 1) {
                    fits &= isOpen(s) && !w.cases.get(s).stone;
                    then.cases.get(s).stone = true;
                }
            }
            if (fits && then.days(n).gain - w.gain <= bound
                    && (found == -2 || Integer.bitCount(bits) < Integer.bitCount(found))) {
                found = bits;
            }
        }
        return found;
    }

    int[] payoff(int suit, int first, int second) {
        int half = worth(suit) / 2;
        if (first == 0 && second == 0) {
            return new int[] {half, half};
        }
        Case c = w.cases.get(suit);
        int v = w.verdict(c.judge, c.nut, w.hardness(c));
        int[] p = v == 1 ? new int[] {worth(suit), 0} : v == 2 ? new int[] {half, half} : new int[] {0, 0};
        p[0] -= first == 1 ? 5 : 0;
        p[1] -= second == 1 ? 5 : 0;
        return p;
    }

    List<Integer> allRests(int suit) {
        List<Integer> rests = new ArrayList<>();
        for (int a = 0; a < 2; a++) {
            for (int b = 0; b < 2; b++) {
                if (payoff(suit, 1 - a, b)[0] <= payoff(suit, a, b)[0]
                        && payoff(suit, a, 1 - b)[1] <= payoff(suit, a, b)[1]) {
                    rests.add(10 * a + b);
                }
            }
        }
        return rests;
    }

    public int rests(int suit) {
        return isOpen(suit) ? allRests(suit).size() : -1;
    }

    public int rest(int suit, int k) {
        if (!isOpen(suit) || k < 0) {
            return -1;
        }
        return k < allRests(suit).size() ? allRests(suit).get(k) : -2;
    }

    public int twins() {
        int pairs = 0;
        for (Case a : w.cases) {
            for (Case b : w.cases) {
                pairs += a.nut == b.nut && a.verdict >= 0 && b.verdict >= 0 && a.verdict < b.verdict ? 1 : 0;
            }
        }
        return pairs;
    }

    public int likely(int suit, int what) {
        if (!isOpen(suit) || what < 0 || what > 1) {
            return -1;
        }
        Case c = w.cases.get(suit);
        int whole = 0;
        for (int more = 0; more < 10; more++) {
            whole += w.verdict(c.judge, c.nut, w.hardness(c) + more) == 1 ? 1 : 0;
        }
        int common = BigInteger.valueOf(whole).gcd(BigInteger.TEN).intValue();
        return what == 0 ? whole / common : 10 / common;
    }

    public int wholeBy(int suit) {
        if (!isOpen(suit)) {
            return -1;
        }
        int bits = 0;
        for (int j = 0; j < text.judges.size(); j++) {
            Case c = w.cases.get(suit);
            bits |= w.verdict(j, c.nut, w.hardness(c)) == 1 ? 1 << j : 0;
        }
        return bits;
    }

    public int docket(int day) {
        if (day < 0 || day > 9999) {
            return -1;
        }
        int bits = 0;
        for (int s = 0; s < w.cases.size(); s++) {
            bits |= isOpen(s) && w.cases.get(s).day == day ? 1 << s : 0;
        }
        return bits;
    }

    public int crown() {
        int found = -1;
        for (int j = text.judges.size() - 1; j >= 0; j--) {
            if (found == -1 || judge(j, 3) >= judge(found, 3)) {
                found = j;
            }
        }
        return found;
    }

    public int nextTooth() {
        for (int n = 1; n <= 99; n++) {
            if (w.copy().days(n).lost > w.lost) {
                return n;
            }
        }
        return -2;
    }

    public int note(int suit, int verdict, boolean is) {
        if (!isSuit(suit) || verdict < 0 || verdict > 3 || notes.size() == 24) {
            return -1;
        }
        notes.add(new Note(suit, verdict, is, -1));
        return notes.size() - 1;
    }

    public int out(int note) {
        if (note < 0 || note >= notes.size() || notes.size() == 24) {
            return -1;
        }
        notes.add(new Note(-1, -1, false, note));
        return notes.size() - 1;
    }

    public boolean known(int n) {
        if (n < -1 || n > notes.size()) {
            return false;
        }
        knownBy = n;
        return true;
    }

    boolean isStruck(int note, int of) {
        for (int k = note + 1; k < of; k++) {
            if (notes.get(k).strikes() == note && !isStruck(k, of)) {
                return true;
            }
        }
        return false;
    }

    public int levers() {
        int of = knownBy == -1 ? notes.size() : knownBy;
        int bits = 0;
        for (int i = 0; i < 10; i++) {
            World then = World.start(text, 5 + 10 * i).days(100);
            boolean fits = true;
            for (int k = 0; k < of; k++) {
                Note note = notes.get(k);
                if (note.strikes() == -1 && !isStruck(k, of)) {
                    fits &= (then.cases.get(note.suit()).verdict == note.verdict()) == note.is();
                }
            }
            bits |= fits ? 1 << i : 0;
        }
        return bits;
    }

    public int chance(int seed, int n, int gain) {
        if (seed < 0 || n < 1 || n > 99 || gain < 0 || gain > 999) {
            return -1;
        }
        long[] stream = {seed};
        int times = 0;
        for (int i = 0; i < 10; i++) {
            World then = w.copy();
            then.stream = stream;
            times += then.days(n).gain - w.gain >= gain ? 1 : 0;
        }
        return times;
    }

    public int tried(int what, int i, int n) {
        if (what < 0 || what > 5 || n < 0 || n > 99 || (what == 2 ? !isJudge(i) : i != 0)) {
            return -1;
        }
        World then = w.copy();
        then.otherwise = what;
        then.barred = what == 2 ? i : -1;
        then.lever = what == 5 ? 99 : then.lever;
        return then.days(n).gain - w.gain;
    }

    public int undo() {
        if (earlier.isEmpty()) {
            return -1;
        }
        w = earlier.removeLast();
        return earlier.size();
    }

    public int keep() {
        image = w.copy();
        return w.day;
    }

    public int back() {
        if (image == null) {
            return -1;
        }
        w = image.copy();
        earlier.clear();
        return w.day;
    }

    public int count(int what) {
        return switch (what) {
            case 0 -> text.judges.size();
            case 1 -> text.nuts.size();
            case 2 -> w.cases.size();
            case 3 -> text.knots;
            case 4 -> w.day;
            case 5 -> w.lever;
            case 6, 7, 8, 9 -> w.number(what - 6);
            case 10 -> w.gain;
            case 11 -> w.mouse;
            case 12 -> w.lost;
            case 13 -> notes.size();
            case 14 -> knownBy == -1 ? notes.size() : knownBy;
            case 15 -> earlier.size();
            default -> -1;
        };
    }
}
