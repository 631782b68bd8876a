/** Promises 4 and 5 at their boundaries: fault, with each FAULT of a TEXT and its place, and named. */
public final class TestEdgesFault {
    private static final String FOUR_JUDGES = "judge a 1 0;judge b 1 0;judge c 1 0;judge d 1 0;";
    private static final String SIX_NUTS = "nut a 1 0 0;nut b 1 0 0;nut c 1 0 0;nut d 1 0 0;nut e 1 0 0;nut f 1 0 0;";
    private static final String BOTH = "judge a 1 0;nut n 1 0 0;";

    public static void main(String[] args) {
        Edges.run(TestEdgesFault.class);
    }

    // ---- 4: fault

    @Says("Of the latest text() that was not -2, what 0: its FAULT (0), 1: its place")
    static void promise4_fault_isOfTheLatestTextThatWasRead() {
        JawBench x = new JawBench();
        Check.due("fault 0 ahead of all", 0, x.fault(0));
        Check.tell(x, "lever 0;");
        told(x, 2, 6);
        x.text(-1);
        told(x, 2, 6);
        x.text(1);
        told(x, 2, 6);
        Check.tell(x, " #");
        told(x, 1, 1);
        x.go(1);
        x.feed(0, 0, 0, 0, 0);
        told(x, 1, 1);
        x.text(0);
        told(x, 0, -1);
        Check.tell(x, "rest 1;rest 1;");
        told(x, 3, 7);
        Check.tell(x, "rest 1;");
        told(x, 0, -1);
        x.text(1);
        told(x, 0, -1);
    }

    @Says("(NONE without)")
    static void promise4_fault_hasNoPlaceWithout() {
        JawBench x = new JawBench();
        told(x, 0, -1);
        x.text(1);
        told(x, 0, -1);
        Check.tell(x, ";");
        told(x, 1, 0);
        Check.tell(x, "lever 5;");
        told(x, 0, -1);
    }

    @Says("NONE for another what.")
    static void promise4_fault_isNoneForAnotherWhat() {
        JawBench x = new JawBench();
        Check.tell(x, "lever 0;");
        Edges.same("fault", x::fault, -1, Integer.MIN_VALUE, -2, -1, 2, 3, Integer.MAX_VALUE);
        told(x, 2, 6);
    }

    @Says("FAULTS, the first along the text")
    static void promise4_fault_isTheFirstAlongTheText() {
        Check.fault("lever 0;lever 100;#", 2, 6);
        Check.fault("#lever 0;", 1, 0);
        Check.fault("judge a 0 10;", 2, 8);
        Check.fault("judge a 1 10;judge a 1 0;", 2, 10);
        Check.fault("judge a 1 0;judge a 0 10;", 3, 18);
        Check.fault("suit s a a 100;", 4, 7);
        Check.fault("judge a 1 0;suit s a a 100;", 4, 21);
        Check.fault(FOUR_JUDGES + "judge #", 2, FOUR_JUDGES.length());
        Check.fault(FOUR_JUDGES + "judge a 1 0;", 2, FOUR_JUDGES.length());
        Check.fault(FOUR_JUDGES + "judge", 2, FOUR_JUDGES.length());
        Check.fault("lever 5;lever 100;", 3, 8);
        Check.fault("lever 5;lever", 3, 8);
        Check.fault("law force 1;law force #;", 3, 16);
        Check.fault("law force 10000+;", 2, 10);
        Check.fault("law force 1+#10000;", 1, 12);
        Check.fault("lever 5;\n rest 31;\n", 2, 15);
    }

    @Says("(of one place the least), with its place:")
    static void promise4_fault_isTheLeastOfOnePlace() {
        Check.fault("law force 1 10000;", 1, 12);
        Check.fault("lever 5 100000;", 1, 8);
        Check.fault("lever 5 lever 6;", 1, 8);
        Check.fault("lever 5;rest 5 rest", 1, 15);
        Check.fault("law force 1;law wear 1 law force", 1, 23);
        Check.fault("law force ((((((((1(;", 1, 19);
        Check.fault("law force 1((((((((((;", 1, 11);
        String fiveOfFour = "judge a 1 0;judge b 1 0;judge c 1 0;judge d 1 0 judge";
        Check.fault(fiveOfFour, 1, fiveOfFour.length() - 5);
        Check.fault(BOTH + "suit s day n 1;", 1, BOTH.length() + 7);
        Check.fault(BOTH + "suit s abcdefg n 1;", 1, BOTH.length() + 7);
        Check.fault(BOTH + "suit s a hard 1;", 1, BOTH.length() + 9);
        // The 65th KNOT that can't stand where it is.
        String second = knots(61) + "law slack 1<2";
        Check.fault(second + "<3;", 1, second.length());
        Check.fault(second + "+3;", 2, second.length());
        String not = knots(62) + "law slack 1+";
        Check.fault(not + "not 1;", 1, not.length());
        Check.fault(not + "1;", 2, not.length());
        String two = knots(63) + "law slack 1 ";
        Check.fault(two + "1;", 1, two.length());
        Check.fault(two + "+1;", 2, two.length());
    }

    @Says("1 a TOKEN that is none")
    static void promise4_fault_1_isATokenThatIsNone() {
        for (String none : new String[] {"#", "A", "\t", "\r", "\u0000", "\u007f", "\u0080", "\u008a", "\u00a0", "\u00e1", "\u00ff",
            "!", "&", "|", "[", "]", "{", "}", ":", ",", ".", "'", "%", "^", "_", "`", "~", "@", "?", "\\", "\"", "$"}) {
            Check.fault(none, 1, 0);
            Check.fault("lever" + none, 1, 5);
            Check.fault("lever 5" + none + ";", 1, 7);
            Check.fault("lever 5; " + none, 1, 9);
            Check.fault("judge " + none + "a 1 1;", 1, 6);
            Check.fault("law force 1+" + none + "1;", 1, 12);
        }
    }

    @Says("(a word of more than 6 letters that is none of the language, too)")
    static void promise4_fault_1_isAWordOfMoreThanSixLetters() {
        Check.fault("judge bittern 1 1;", 1, 6);
        Check.fault("judge bitte 1 1;", 0, -1);
        Check.fault("law force bitter;", 0, -1);
        Check.fault("law force bitterx;", 1, 10);
        Check.fault("levers 5;", 1, 0);
        Check.fault("leverrr 5;", 1, 0);
        Check.fault("nut abcdef 1 1 1;", 0, -1);
        Check.fault("nut abcdefg 1 1 1;", 1, 4);
        Check.fault("judge abcdef 1 1;nut n 1 1 1;suit s abcdefg n 1;", 1, 36);
        Check.fault("judge abcdef 1 1;nut n 1 1 1;suit s abcdef n 1;", 0, -1);
    }

    @Says("or can't stand there (the length, if more must come).")
    static void promise4_fault_1_isAtTheLengthIfMoreMustCome() {
        String[] lines = {"judge b 1 0 ;", "nut m 1 0 0 ;", "suit t a n 0 ;", "lever 5 ;", "rest 5 ;", "seed 5 ;",
            "law force not ( jaw + 1 ) * 2 < 3 and ( not ( 4 ) or 5 ) ;"};
        for (String line : lines) {
            StringBuilder text = new StringBuilder(BOTH);
            for (String token : line.split(" ")) {
                text.append(token);
                boolean whole = token.equals(";");
                Check.fault(text.toString(), whole ? 0 : 1, whole ? -1 : text.length());
                Check.fault(text + " ", whole ? 0 : 1, whole ? -1 : text.length() + 1);
                Check.fault(text + "\n \n", whole ? 0 : 1, whole ? -1 : text.length() + 3);
                text.append(' ');
            }
        }
        String longest = " ".repeat(695) + "lever";
        Check.fault(longest, 1, 700);
    }

    @Says("2 too much (at it): a number beyond what is said,")
    static void promise4_fault_2_isANumberBeyondWhatIsSaid() {
        Check.fault("judge a   100 10;", 2, 10);
        Check.fault("judge a 99   10;", 2, 13);
        Check.fault("nut a 100 100 10;", 2, 6);
        Check.fault("nut a 99 100 10;", 2, 9);
        Check.fault("nut a 99 99 10;", 2, 12);
        Check.fault(BOTH + "suit s a n 100", 2, BOTH.length() + 11);
        Check.fault("lever 100", 2, 6);
        Check.fault("lever 0", 2, 6);
        Check.fault("rest 31", 2, 5);
        Check.fault("seed 100000", 2, 5);
        Check.fault("law wear 9999+10000", 2, 14);
        Check.fault("judge a 0000 1;", 2, 8);
    }

    @Says("a fifth judge and so on (at the word of the LINE),")
    static void promise4_fault_2_isAFifthJudgeAtTheWord() {
        Check.fault(FOUR_JUDGES, 0, -1);
        Check.fault(FOUR_JUDGES + " \njudge e 1 0;", 2, FOUR_JUDGES.length() + 2);
        Check.fault(SIX_NUTS, 0, -1);
        Check.fault(SIX_NUTS + "\n nut g 1 0 0;", 2, SIX_NUTS.length() + 2);
        String ten = BOTH + Edges.suits(0, 9, "a n 1");
        Check.fault(ten, 0, -1);
        Check.fault(ten + " suit k a n 1;", 2, ten.length() + 1);
        Check.fault(ten + "nut m 1 1 1;judge b 1 1;", 0, -1);
        Check.fault(FOUR_JUDGES + SIX_NUTS, 0, -1);
    }

    @Says("a ninth '(' open,")
    static void promise4_fault_2_isANinthOpen() {
        Check.fault("law force ((((((((1))))))));", 0, -1);
        Check.fault("law force (((((((((1)))))))));", 2, 18);
        Check.fault("law force (((((((((", 2, 18);
        Check.fault("law force ((((((((", 1, 18);
        Check.fault("law force ((((((((1))))))))+((((((((1))))))));", 0, -1);
        Check.fault("law force ((((((((1)+(1)))))))));", 1, 31);
        Check.fault("law force ((((((((1)+(1))))))));", 0, -1);
        Check.fault("law force ((((((((1)+((1)))))))));", 2, 22);
        Check.fault("law force ((((((((1+(1)))))))));", 2, 20);
        Check.fault("law force ((((((((not(1)))))))));", 2, 21);
        Check.fault("law force ((((((((1))))))));law wear ((((((((1))))))));", 0, -1);
        JawBench x = new JawBench();
        for (int i = 0; i < 20; i++) {
            Check.due("open ones of a fault", -1, Check.tell(x, "law force 1*(2+(3<(not (4 and (5 or (6-(7/("));
            Check.due("at the length", 43, x.fault(1));
        }
        Check.due("are no more", 3, Check.tell(x, "judge a 1 1;nut n 1 1 1;law force ((((((((1))))))))+2*(3-1)*(1 or 0);"));
        Check.due("nor their signs", 5, x.law(0, 0, 0));
    }

    @Says("a 65th KNOT of all E (N, NAMES, signs, not, and, or: one each).")
    static void promise4_fault_2_isA65thKnot() {
        String[] sides = {"1", "jaw", "teeth", "hard", "bitter", "lever", "load", "day", "not 1", "((1))"};
        for (String side : sides) {
            String all = knots(64) + "law slack ";
            Check.fault(all + side + ";", 2, all.length() + (side.startsWith("(") ? 2 : 0));
            String less = knots(63) + "law slack ";
            boolean fits = !side.startsWith("not");
            Check.fault(less + side + ";", fits ? 0 : 2, fits ? -1 : less.length() + 4);
            knotCount(knots(62) + "law slack " + side + ";", fits ? 63 : 64);
        }
        for (String sign : new String[] {"+", "-", "*", "/", "<", "<=", "=", "<>", ">=", ">", " and ", " or "}) {
            String all = knots(63) + "law slack 1";
            Check.fault(all + sign + "1;", 2, all.length() + (sign.startsWith(" ") ? 1 : 0));
            String less = knots(62) + "law slack 1";
            Check.fault(less + sign + "1;", 2, less.length() + sign.length());
            knotCount(knots(61) + "law slack 1" + sign + "1;", 64);
        }
        knotCount("law force " + "not ".repeat(63) + "1;", 64);
        Check.fault("law force " + "not ".repeat(64) + "1;", 2, 10 + 4 * 64);
        Check.fault("law force " + "not ".repeat(65) + "1;", 2, 10 + 4 * 64);
        Check.fault(knots(64) + "law slack ", 1, knots(64).length() + 10);
        Check.fault(knots(64) + "law slack ;", 1, knots(64).length() + 10);
        knotCount(knots(21).replace(" force ", " wear ") + knots(21) + knots(21).replace(" force ", " slack "), 63);
        JawBench x = new JawBench();
        Check.due("knots of a fault", -1, Check.tell(x, knots(64) + "law slack 1;"));
        Check.due("are no more", 1, Check.tell(x, knots(64)));
        Check.due("nor those of a text ahead", 1, Check.tell(x, knots(64)));
        Check.due("64", 64, x.count(3));
    }

    @Says("3 told already: a name of its kind (at W),")
    static void promise4_fault_3_isANameOfItsKind() {
        Check.fault("judge a 1 0;judge a 2 0;", 3, 18);
        Check.fault("judge a 1 0;judge b 2 0;judge   b 1 0;", 3, 32);
        Check.fault("nut a 1 0 0;nut a 1 0 0;", 3, 16);
        Check.fault(BOTH + "suit s a n 0;suit s a n 0;", 3, BOTH.length() + 18);
        Check.fault("judge a 1 0;nut a 1 0 0;suit a a a 0;", 0, -1);
        Check.fault("judge abcdef 1 0;judge abcdeg 1 0;judge abcde 1 0;judge bcdef 1 0;", 0, -1);
        Check.fault("judge abcdef 1 0;judge abcdef", 3, 23);
        JawBench x = new JawBench();
        Check.tell(x, "judge a 1 0;");
        Check.due("a name of a text ahead isn't told", 1, Check.tell(x, "judge a 1 0;"));
        Check.due("nor one of a fault", -1, Check.tell(x, "judge a 1 0;judge b 0"));
        Check.due("nor one of a fault", 1, Check.tell(x, "judge b 1 0;"));
    }

    @Says("lever, rest, seed (at the word),")
    static void promise4_fault_3_isALeverARestASeed() {
        Check.fault("lever 50;lever 50;", 3, 9);
        Check.fault("rest 0; rest 0;", 3, 8);
        Check.fault("seed 0;\nseed 0;", 3, 8);
        Check.fault("lever 1;rest 1;seed 1;", 0, -1);
        Check.fault("lever 1;rest 1;seed 1;lever 1;", 3, 22);
        Check.fault("lever 1;rest 1;seed 1;rest 1;", 3, 22);
        Check.fault("lever 1;rest 1;seed 1;seed", 3, 22);
        JawBench x = new JawBench();
        for (int i = 0; i < 2; i++) {
            Check.due("those of a text ahead aren't told", 3, Check.tell(x, "lever 1;rest 1;seed 1;"));
            Check.due("nor those of a fault", -1, Check.tell(x, "lever 1;rest 1;seed 1;seed"));
        }
    }

    @Says("a law of its RULE (at RULE).")
    static void promise4_fault_3_isALawOfItsRule() {
        String[] rules = {"force", "slack", "wear"};
        for (String rule : rules) {
            String one = "law " + rule + " 0;";
            for (String other : rules) {
                boolean fine = !rule.equals(other);
                Check.fault(one + " law " + other + " 1;", fine ? 0 : 3, fine ? -1 : one.length() + 5);
                Check.fault(one + "law " + other, fine ? 1 : 3, one.length() + 4 + (fine ? other.length() : 0));
            }
        }
        JawBench x = new JawBench();
        for (int i = 0; i < 2; i++) {
            Check.due("those of a text ahead aren't told", 3, Check.tell(x, "law force 1;law slack 1;law wear 1;"));
            Check.due("nor those of a fault", -1, Check.tell(x, "law force 1;law slack 1;law wear"));
        }
    }

    @Says("4 a JUDGE, a NUT that isn't told ahead (at W).")
    static void promise4_fault_4_isOneThatIsNotToldAhead() {
        Check.fault("suit s a n 0;", 4, 7);
        Check.fault("suit s a n 0;" + BOTH, 4, 7);
        Check.fault("judge a 1 0;suit s a n 0;nut n 1 0 0;", 4, 21);
        Check.fault("nut n 1 0 0;suit s a n 0;judge a 1 0;", 4, 19);
        Check.fault(BOTH + "suit s   n n 0;", 4, BOTH.length() + 9);
        Check.fault(BOTH + "suit s a   a 0;", 4, BOTH.length() + 11);
        Check.fault(BOTH + "suit s s n 0;", 4, BOTH.length() + 7);
        Check.fault("judge ab 1 0;nut n 1 0 0;suit s a n 0;", 4, 32);
        Check.fault("judge a 1 0;nut n 1 0 0;suit s ab n 0;", 4, 31);
        Check.fault(BOTH + "suit s a n 0;", 0, -1);
        JawBench x = Check.told(BOTH);
        Check.due("those of a text ahead aren't told", -1, Check.tell(x, "suit s a n 0;"));
        told(x, 4, 7);
    }

    // ---- 5: named

    @Says("The number of a JUDGE (what 0), NUT (1), SUIT (2) by its letters,")
    static void promise5_named_isTheNumberOfItsKind() {
        JawBench x = Check.told("judge a 1 0;judge b 1 0;judge c 1 0;judge d 1 0;nut b 1 0 0;nut f 1 0 0;nut a 1 0 0;suit f a b 0;suit c a b 0;");
        String names = "abcdef";
        int[][] due = {{0, 1, 2, 3, -1, -1}, {2, 0, -1, -1, -1, 1}, {-1, -1, 1, -1, -1, 0}};
        for (int what = 0; what < 3; what++) {
            for (int i = 0; i < names.length(); i++) {
                Check.due("named " + what + " " + names.charAt(i), due[what][i], x.named(what, i + 1 << 25));
            }
        }
        x.go(1);
        Check.due("tried ones have names", 0, x.named(2, 6 << 25));
    }

    @Says("5 bits each (a is 1; the first one highest of six, 0 behind the last one);")
    static void promise5_named_readsSixLetters() {
        JawBench x = Check.told("judge a 1 0;judge zzzzzz 1 0;judge abcdef 1 0;judge zy 1 0;");
        Check.due("a", 0, x.named(0, 0x02000000));
        Check.due("zzzzzz", 1, x.named(0, 26 << 25 | 26 << 20 | 26 << 15 | 26 << 10 | 26 << 5 | 26));
        Check.due("abcdef", 2, x.named(0, 1 << 25 | 2 << 20 | 3 << 15 | 4 << 10 | 5 << 5 | 6));
        Check.due("zy", 3, x.named(0, 26 << 25 | 25 << 20));
        Check.due("abcde", -1, x.named(0, 1 << 25 | 2 << 20 | 3 << 15 | 4 << 10 | 5 << 5));
        Check.due("abcdeg", -1, x.named(0, 1 << 25 | 2 << 20 | 3 << 15 | 4 << 10 | 5 << 5 | 7));
        Check.due("z", -1, x.named(0, 26 << 25));
        Check.due("y", -1, x.named(0, 25 << 25));
        Check.due("a with a letter behind a gap", -1, x.named(0, 1 << 25 | 1));
        Check.due("a, the first one lowest", -1, x.named(0, 1));
        Check.due("a, shifted", -1, x.named(0, 1 << 20));
        Check.due("a with bit 30", -1, x.named(0, 1 << 25 | 1 << 30));
        Check.due("a with bit 31", -1, x.named(0, 1 << 25 | 1 << 31));
    }

    @Says("NONE: there is none such.")
    static void promise5_named_isNoneWithout() {
        JawBench x = Check.told("judge a 1 0;nut a 1 0 0;suit a a a 0;");
        Edges.only("what", -1, 0, 2, what -> x.named(what, 1 << 25));
        Edges.same("letters", letters -> x.named(0, letters), -1, 0, -1, 2 << 25, 27 << 25, 31 << 25, 1 << 26,
                Integer.MAX_VALUE, Integer.MIN_VALUE);
        Check.tell(x, "judge b 1 0;");
        Check.due("of the text ahead", -1, x.named(0, 1 << 25));
        Check.due("no nuts", -1, x.named(1, 1 << 25));
        Check.due("no suits, no letters", -1, x.named(2, 0));
    }

    private static void told(JawBench x, int fault, int place) {
        Check.due("fault(0)", fault, x.fault(0));
        Check.due("fault(1)", place, x.fault(1));
    }

    private static void knotCount(String text, int due) {
        Check.due("knots of " + text, due, Check.told(text).count(3));
    }

    /** A law of force with so many KNOTS. */
    private static String knots(int n) {
        return "law force " + (n % 2 == 0 ? "not " : "") + "1" + "+1".repeat((n - 1) / 2) + ";";
    }
}
