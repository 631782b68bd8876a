import java.util.NoSuchElementException;

/** What the tests share: feeding texts, and saying which answers are not the ones that are due. */
final class Check {
    static final int INDEX_OUT_OF_BOUNDS = -101;
    static final int NO_SUCH_ELEMENT = -102;

    private static int asked;
    private static int wrong;

    private Check() {
    }

    static void due(String what, long want, long got) {
        asked++;
        if (want != got) {
            wrong++;
            System.out.println(what + ": answered " + got + ", due is " + want);
        }
    }

    static void due(String what, boolean want, boolean got) {
        due(what, want ? 1 : 0, got ? 1 : 0);
    }

    static int wrongOnes() {
        return wrong;
    }

    /** Ends the test: exit code 1 if an answer was wrong. */
    static void end() {
        System.out.println(asked + " answers, " + wrong + " wrong");
        if (wrong != 0 || asked == 0) {
            System.exit(1);
        }
    }

    static int feed(JawBench x, String text) {
        int length = 0;
        for (int i = 0; i < text.length(); i += 20) {
            int[] n = new int[5];
            for (int k = 0; k < 20; k++) {
                n[k / 4] = n[k / 4] << 8 | (i + k < text.length() ? text.charAt(i + k) & 255 : ' ');
            }
            length = x.feed(n[0], n[1], n[2], n[3], n[4]);
        }
        return length;
    }

    static int tell(JawBench x, String text) {
        feed(x, text);
        return x.text(text.length());
    }

    /** A new object with a text that must be without fault. */
    static JawBench told(String text) {
        JawBench x = new JawBench();
        int lines = tell(x, text);
        due("lines of " + text, text.chars().filter(c -> c == ';').count(), lines);
        return x;
    }

    static void fault(String text, int which, int place) {
        JawBench x = new JawBench();
        due("text " + text, which == 0 ? text.chars().filter(c -> c == ';').count() : -1, tell(x, text));
        due("fault(0) of " + text, which, x.fault(0));
        due("fault(1) of " + text, place, x.fault(1));
    }

    /** What an E is, by a law of force: of a judge with jaw 7 and 1 tooth at a nut 5 9 3 on day 0. */
    static void value(String e, long due) {
        JawBench x = told("judge a 7 1;nut n 5 9 3;law force " + e + ";");
        due("value of " + e, due, x.law(0, 0, 0));
    }

    static int letters(String name) {
        int code = 0;
        for (int i = 0; i < 6; i++) {
            code = code << 5 | (i < name.length() ? name.charAt(i) - 'a' + 1 : 0);
        }
        return code;
    }

    /** suit(), with the exceptions that it throws as answers. */
    static int suit(JawBench x, int suit, int what) {
        try {
            return x.suit(suit, what);
        } catch (IndexOutOfBoundsException e) {
            return INDEX_OUT_OF_BOUNDS;
        } catch (NoSuchElementException e) {
            return NO_SUCH_ELEMENT;
        }
    }
}
