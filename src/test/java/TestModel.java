import java.lang.reflect.InvocationTargetException;
import java.lang.reflect.Method;
import java.util.ArrayList;
import java.util.Comparator;
import java.util.List;
import java.util.Random;

/**
 * Runs of 512 calls, by fixed seeds, on JawBench and on PlainModel: all answers must be alike.
 * Arguments: how many runs, and the first seed (without: what .ci/run takes).
 */
public final class TestModel {
    private static final String[] OFTEN = {"go", "give", "stone", "put", "oil", "undo", "keep", "back", "note", "out",
        "known", "levers", "suit", "count", "ahead", "order", "deal", "spoil", "chance", "tried", "nextTooth"};

    private final Random random;
    private final JawBench real = new JawBench();
    private final PlainModel model = new PlainModel();
    private final List<String> said = new ArrayList<>();
    private final List<Method> methods = new ArrayList<>();
    private int calls;

    private TestModel(long seed) {
        random = new Random(seed);
        for (Method m : JawBench.class.getDeclaredMethods()) {
            if (java.lang.reflect.Modifier.isPublic(m.getModifiers())) {
                methods.add(m);
            }
        }
        methods.sort(Comparator.comparing(Method::getName));
    }

    public static void main(String[] args) throws Exception {
        int runs = args.length > 0 ? Integer.parseInt(args[0]) : 1000;
        long first = args.length > 1 ? Long.parseLong(args[1]) : 1;
        int wrong = 0;
        for (long seed = first; seed < first + runs && wrong < 5; seed++) {
            wrong += new TestModel(seed).run(seed) ? 0 : 1;
        }
        System.out.println(runs + " runs against the model, " + wrong + " wrong");
        if (wrong != 0) {
            System.exit(1);
        }
    }

    private boolean run(long seed) throws Exception {
        boolean faultless = random.nextInt(4) != 0;
        while (calls < 512) {
            boolean tells = calls == 0 || random.nextInt(faultless ? 150 : 40) == 0;
            if (!(tells ? tell(faultless) : callOne())) {
                System.out.println("run " + seed + ":");
                for (int i = Math.max(0, said.size() - 40); i < said.size(); i++) {
                    System.out.println("  " + said.get(i));
                }
                return false;
            }
        }
        return true;
    }

    private boolean tell(boolean faultless) throws Exception {
        String text = text();
        if (!faultless) {
            text = spoilt(text);
        }
        said.add("-- " + text);
        boolean alike = true;
        for (int i = 0; i < text.length() && alike; i += 20) {
            Object[] n = new Object[5];
            for (int k = 0; k < 5; k++) {
                int four = 0;
                for (int b = 0; b < 4; b++) {
                    int at = i + 4 * k + b;
                    four = four << 8 | (at < text.length() ? text.charAt(at) & 255 : ' ');
                }
                n[k] = four;
            }
            alike = same(method("feed"), n);
        }
        int cut = random.nextInt(faultless ? 1000 : 8) == 0 ? random.nextInt(text.length() + 1) : text.length();
        alike = alike && same(method("text"), new Object[] {cut});
        for (int what = -1; what <= 2 && alike; what++) {
            alike = same(method("fault"), new Object[] {what});
        }
        return alike;
    }

    private boolean callOne() throws Exception {
        Method m = random.nextInt(3) == 0 ? method(OFTEN[random.nextInt(OFTEN.length)])
                : methods.get(random.nextInt(methods.size()));
        if (m.getName().equals("feed") && random.nextInt(10) != 0 || m.getName().equals("text") && random.nextInt(20) != 0) {
            return true;
        }
        Object[] args = new Object[m.getParameterCount()];
        for (int i = 0; i < args.length; i++) {
            args[i] = m.getParameterTypes()[i] == boolean.class ? (Object) random.nextBoolean() : (Object) number(m.getName(), i);
        }
        return same(m, args);
    }

    private int number(String call, int i) {
        if (random.nextInt(60) == 0) {
            int[] odd = {Integer.MIN_VALUE, Integer.MAX_VALUE, -1, -2, 100, 1000, 10000, 64, 61, 31, 12};
            return odd[random.nextInt(odd.length)];
        }
        switch (call + i) {
            case "go0": return random.nextInt(10) == 0 ? random.nextInt(101) : random.nextInt(4);
            case "oil0": return random.nextInt(3) == 0 ? random.nextInt(100) : 1 + random.nextInt(9);
            case "ahead0": case "deal0": case "spoil0": case "chance1": case "tried2":
                return random.nextInt(3) == 0 ? random.nextInt(101) : random.nextInt(9);
            case "put1": return random.nextInt(9) == 0 ? random.nextInt(10001) : model.w.day + random.nextInt(7) - 1;
            case "docket0": return model.w.day + random.nextInt(7) - 1;
            case "chance0": return random.nextInt();
            case "chance2": case "spoil1": return random.nextInt(3) == 0 ? random.nextInt(1001) : random.nextInt(130);
            case "count0": return random.nextInt(17);
            case "known0": return random.nextInt(28) - 1;
            case "out0": return Math.max(0, model.notes.size() - random.nextInt(4));
            case "text0": return random.nextInt(50) - 5;
            case "named1": return Check.letters(name(random.nextInt(12)));
            case "suit0": case "give0": case "stone0": case "put0": case "rests0": case "rest0": case "likely0":
            case "wholeBy0": case "note0": return random.nextInt(11);
            case "tried1": return random.nextInt(3) == 0 ? 0 : random.nextInt(4);
            default: return random.nextInt(7);
        }
    }

    private Method method(String name) {
        for (Method m : methods) {
            if (m.getName().equals(name)) {
                return m;
            }
        }
        throw new IllegalArgumentException(name);
    }

    private boolean same(Method m, Object[] args) throws Exception {
        calls++;
        Object got = answer(m, real, args);
        Object want = answer(PlainModel.class.getDeclaredMethod(m.getName(), m.getParameterTypes()), model, args);
        said.add(m.getName() + java.util.Arrays.toString(args) + " answered " + got + ", the model " + want);
        return got.equals(want);
    }

    private static Object answer(Method m, Object on, Object[] args) throws Exception {
        try {
            return m.invoke(on, args);
        } catch (InvocationTargetException e) {
            return e.getCause().getClass().getName();
        }
    }

    // ---- texts

    private static String name(int i) {
        return i < 6 ? String.valueOf((char) ('a' + i)) : new String[] {"ned", "walnut", "zzzzzz", "judgea", "lev", "da"}[i - 6];
    }

    private String text() {
        StringBuilder b = new StringBuilder();
        int judges = random.nextInt(20) == 0 ? 0 : 1 + random.nextInt(4);
        int nuts = random.nextInt(20) == 0 ? 0 : 1 + random.nextInt(6);
        int suits = judges == 0 || nuts == 0 ? 0 : random.nextInt(11);
        boolean small = random.nextBoolean();
        for (int j = 0; j < judges; j++) {
            b.append("judge ").append(name(j)).append(' ').append(1 + random.nextInt(99)).append(' ');
            b.append(random.nextInt(small ? 3 : 10)).append(";");
        }
        for (int n = 0; n < nuts; n++) {
            b.append("nut ").append(name(n + 3)).append(' ').append(random.nextInt(100)).append(' ');
            b.append(random.nextInt(100)).append(' ').append(random.nextInt(10)).append(";");
        }
        int days = new int[] {1, 2, 5, 12, 100}[random.nextInt(5)];
        for (int s = 0; s < suits; s++) {
            b.append("suit ").append(name(s)).append(' ').append(name(random.nextInt(judges))).append(' ');
            b.append(name(3 + random.nextInt(nuts))).append(' ').append(random.nextInt(days)).append(";");
        }
        if (random.nextBoolean()) {
            b.append("lever ").append(1 + random.nextInt(99)).append(";");
        }
        if (random.nextBoolean()) {
            b.append("rest ").append(random.nextInt(random.nextBoolean() ? 5 : 31)).append(";");
        }
        if (random.nextInt(4) == 0) {
            b.append("seed ").append(random.nextInt(100000)).append(";");
        }
        int law = 0;
        for (String rule : PlainModel.RULES) {
            String e = random.nextInt(3) == 0 ? formula(random.nextInt(4)) : sensible(law);
            if (random.nextInt(5) < 3 && b.length() + e.length() < 680) {
                b.append("law ").append(rule).append(' ').append(e).append(";");
            }
            law++;
        }
        return b.length() > 690 ? "" : b.toString();
    }

    private String sensible(int rule) {
        String[][] all = {
            {"jaw*lever/50+load*7", "jaw+teeth*5-bitter", "hard+bitter*(load+1)-day", "hard+7", "jaw*10/(day-2)", "(lever>40)*jaw",
                "(hard<jaw or not teeth)*jaw+day*3"},
            {"bitter+1", "lever/10", "jaw/(teeth+1)", "load*9+hard/9", "5", "10-day*20", "hard-60"},
            {"load", "lever/20+load", "bitter-3", "hard/10-day", "9", "0", "1/(load-2)", "teeth*3"}};
        return all[rule][random.nextInt(all[rule].length)];
    }

    private String formula(int depth) {
        if (depth == 0) {
            return random.nextInt(3) == 0 ? String.valueOf(random.nextInt(random.nextBoolean() ? 12 : 10000))
                    : PlainModel.NAMES.get(random.nextInt(PlainModel.NAMES.size()));
        }
        String[] signs = {"+", "-", "*", "/", "<", "<=", "=", "<>", ">=", ">", " and ", " or ", "*", "*", "+"};
        String sign = signs[random.nextInt(signs.length)];
        String left = formula(depth - 1 - random.nextInt(depth));
        String right = formula(depth - 1 - random.nextInt(depth));
        switch (random.nextInt(7)) {
            case 0: return "(not " + left + ")";
            case 1: return "(" + left + sign + right + ")";
            case 2: return "(" + left + ")" + sign + "(" + right + ")";
            default: return left + sign + right;
        }
    }

    private String spoilt(String text) {
        StringBuilder b = new StringBuilder(text);
        String signs = ";()+-*/<=>  \nazjn019#A";
        String[] words = {" not ", " and ", "law ", "judge ", " lever ", "suit ", " 99999", "((((((((", " 0", ";;", "\u00ff", "nut q 1 1 1;",
            "judge q 1 1;", "<>", "jaw", "1+1+1+1+1+1+1+1+1+1+1+1+1+1+1+1+1+1+1+1+1+1+1+1+1+1+1+1+1+1+1+1+1"};
        for (int k = random.nextInt(3); k >= 0; k--) {
            int at = random.nextInt(b.length() + 1);
            switch (random.nextInt(4)) {
                case 0: b.insert(at, signs.charAt(random.nextInt(signs.length()))); break;
                case 1: b.insert(at, words[random.nextInt(words.length)]); break;
                case 2:
                    if (at < b.length()) {
                        b.deleteCharAt(at);
                    }
                    break;
                default:
                    if (at < b.length()) {
                        b.setCharAt(at, signs.charAt(random.nextInt(signs.length())));
                    }
            }
        }
        return b.length() > 700 ? b.substring(0, 700) : b.toString();
    }
}
