import java.util.List;

/** Promises 1 to 3 at their boundaries: a new object, feed, and what a TEXT may tell. */
public final class TestEdgesText {
    private static final String ALL_OF_FOUR = "judge a 1 0;judge b 1 0;judge c 1 0;judge d 1 0;";
    private static final String ALL_OF_SIX = "nut a 1 0 0;nut b 1 0 0;nut c 1 0 0;nut d 1 0 0;nut e 1 0 0;nut f 1 0 0;";
    private static final String BOTH = "judge a 1 0;nut n 1 0 0;";

    public static void main(String[] args) {
        Edges.run(TestEdgesText.class);
    }

    // ---- 1: a new object

    @Says("A TEXT without LINES")
    static void promise1_newObject_hasNoLines() {
        JawBench x = new JawBench();
        Edges.all("count", new int[] {0, 0, 0, 0, 0, 50, 0, 0, 0, 0, 0, 0, 0, 0, 0, 0}, x::count);
        Check.due("named", -1, x.named(0, 0));
        Check.due("suit", Check.INDEX_OUT_OF_BOUNDS, Check.suit(x, 0, 0));
        Check.due("judge", -1, x.judge(0, 0));
        Check.due("nut", -1, x.nut(0, 0));
        Check.due("force", -1, x.force(0, 0));
        Check.due("slack", -1, x.slack(0, 0));
        Check.due("verdict", -1, x.verdict(0, 0));
        Check.due("law", Long.MIN_VALUE, x.law(0, 0, 0));
        Check.due("give", false, x.give(0, 0));
        Check.due("stone", false, x.stone(0, true));
        Check.due("put", false, x.put(0, 1));
        Check.due("enough", -1, x.enough(0, 0));
        Check.due("rests", -1, x.rests(0));
        Check.due("rest", -1, x.rest(0, 0));
        Check.due("likely", -1, x.likely(0, 0));
        Check.due("wholeBy", -1, x.wholeBy(0));
        Check.due("note", -1, x.note(0, 0, true));
        Check.due("out", -1, x.out(0));
        Edges.all("ahead", new int[] {0, 0, 0, 0, 0, 50, 0}, what -> x.ahead(99, what));
        Check.due("a day of none", 1, x.go(1));
        Check.due("no vacation", 55, x.oil(5));
        x.go(99);
        Check.due("no vacation ever", 55, x.count(5));
    }

    @Says("an empty TAPE.")
    static void promise1_newObject_hasAnEmptyTape() {
        JawBench x = new JawBench();
        Check.due("one byte", -2, x.text(1));
        Check.due("none", 0, x.text(0));
        Check.due("fed", 20, x.feed(0x20202020, 0x20202020, 0x20202020, 0x20202020, 0x20202020));
        Check.due("twenty-one bytes", -2, x.text(21));
        Check.due("twenty bytes", 0, x.text(20));
    }

    @Says("An object is used for at most 512 calls after it has been made")
    static void promise1_newObject_serves512Calls() {
        JawBench x = new JawBench();
        int calls = 0;
        for (int i = 1; i <= 35; i++, calls++) {
            Check.due("feed", 20 * i, x.feed(0x20202020, 0x20202020, 0x20202020, 0x20202020, 0x20202020));
        }
        Check.due("feed 36", -1, x.feed(0, 0, 0, 0, 0));
        Check.due("text", 0, x.text(700));
        for (calls += 2; calls < 510; calls += 2) {
            Check.due("oil at " + calls, 51, x.oil(1));
            Check.due("undo at " + calls, 0, x.undo());
        }
        Check.due("the 511th", 51, x.oil(1));
        Check.due("the 512th", 1, x.go(1));
    }

    // ---- 2: feed

    @Says("Twenty bytes come behind the TAPE, four of each number, the highest first: how many it has")
    static void promise2_feed_takesTwentyBytesHighestFirst() {
        JawBench x = new JawBench();
        // "judge abcdef 98 7;nu", "t zyxwvu 65 43 2;   "
        Check.due("the first twenty", 20, x.feed(0x6a756467, 0x65206162, 0x63646566, 0x20393820, 0x373b6e75));
        Check.due("twenty behind them", 40, x.feed(0x74207a79, 0x78777675, 0x20363520, 0x34332032, 0x3b202020));
        Check.due("two lines", 2, x.text(40));
        Check.due("abcdef", 0, x.named(0, Check.letters("abcdef")));
        Check.due("jaw", 98, x.judge(0, 0));
        Check.due("teeth", 7, x.judge(0, 1));
        Check.due("zyxwvu", 0, x.named(1, Check.letters("zyxwvu")));
        Edges.all("nut", new int[] {65, 43, 2}, what -> x.nut(0, what));
        Check.due("bytes of negative numbers", 20, x.feed(-1, Integer.MIN_VALUE, -256, 0, 0));
        Check.due("are no tokens", -1, x.text(20));
        Check.due("the first one already", 0, x.fault(1));
    }

    @Says("NONE, and none come, if it would have more than 700.")
    static void promise2_feed_refusesMoreThan700() {
        JawBench x = new JawBench();
        for (int i = 1; i < 35; i++) {
            Check.due("feed " + i, 20 * i, x.feed(0x20202020, 0x20202020, 0x20202020, 0x20202020, 0x20202020));
        }
        // "lever 7;            ", at last "judge a 1 1;        " that must not come
        Check.due("to 700", 700, x.feed(0x6c657665, 0x7220373b, 0x20202020, 0x20202020, 0x20202020));
        Check.due("beyond 700", -1, x.feed(0x6a756467, 0x65206120, 0x3120313b, 0x20202020, 0x20202020));
        Check.due("beyond it again", -1, x.feed(0, 0, 0, 0, 0));
        Check.due("no 701st byte", -2, x.text(701));
        Check.due("no 720th byte", -2, x.text(720));
        Check.due("all 700", 1, x.text(700));
        Check.due("the last ones were told", 7, x.count(5));
        Check.due("none of the refused ones", 0, x.count(0));
        Check.due("an empty tape takes again", 20, x.feed(0, 0, 0, 0, 0));
    }

    // ---- 3: text

    @Says("The TAPE's first n bytes (it is empty then) are the TEXT")
    static void promise3_text_tellsTheFirstNBytesAlone() {
        String tape = "lever 5;lever 66;";
        int[][] lengthFaultPlace = {{0, 0, -1}, {6, 1, 6}, {7, 1, 7}, {8, 0, -1}, {9, 1, 8}, {13, 3, 8}, {17, 3, 8}};
        for (int[] row : lengthFaultPlace) {
            JawBench x = new JawBench();
            Check.feed(x, tape);
            Check.due("first " + row[0], row[1] != 0 ? -1 : row[0] == 8 ? 1 : 0, x.text(row[0]));
            Check.due("fault of first " + row[0], row[1], x.fault(0));
            Check.due("place of first " + row[0], row[2], x.fault(1));
            Check.due("lever of first " + row[0], row[0] == 8 ? 5 : 50, x.count(5));
            Check.due("empty then, one byte", -2, x.text(1));
            Check.due("empty then, fed", 20, x.feed(0, 0, 0, 0, 0));
        }
    }

    @Says("The TAPE's first n bytes (it is empty then) are the TEXT")
    static void promise3_text_cutsTokensAtItsEnd() {
        String[] tapes = {"lever 55;", "lever 555;", "judge abcdefg 1 1;", "law force 1<=2;", "law force 1<>2;", "law force 1>=2;"};
        int[] lengths = {7, 8, 12, 12, 12, 12};
        for (int i = 0; i < tapes.length; i++) {
            JawBench x = new JawBench();
            Check.feed(x, tapes[i]);
            Check.due("cut " + tapes[i], -1, x.text(lengths[i]));
            Check.due("only more is wanted", 1, x.fault(0));
            Check.due("at the length", lengths[i], x.fault(1));
        }
    }

    @Says("(DAY 0, no STONES, nothing TRIED, no NOTES, all KNOWN, no IMAGE, nothing to undo then)")
    static void promise3_text_beginsAnew() {
        String text = "judge a 10 2;nut n 31 9 3;suit s a n 0;suit t a n 4;lever 50;";
        JawBench x = Check.told(text);
        x.stone(1, true);
        x.go(1);
        x.oil(3);
        x.put(1, 7);
        x.note(0, 0, true);
        x.note(0, 1, true);
        x.known(1);
        x.keep();
        Check.due("a tooth is lost", 1, x.judge(0, 1));
        Check.due("the same text again", 5, Check.tell(x, text));
        Edges.all("count", new int[] {1, 1, 2, 0, 0, 50, 0, 0, 0, 0, 0, 0, 0, 0, 0, 0}, x::count);
        Check.due("teeth as told", 2, x.judge(0, 1));
        Check.due("no stone", 0, Check.suit(x, 1, 3));
        Check.due("on its told day", 4, Check.suit(x, 1, 2));
        Check.due("not tried", -1, Check.suit(x, 0, 4));
        Check.due("no image", -1, x.back());
        Check.due("nothing to undo", -1, x.undo());
        x.note(0, 0, true);
        x.note(0, 1, true);
        Check.due("all known, those to come, too", 2, x.count(14));
    }

    @Says({"how many LINES", "A TEXT: { LINE ';' }."})
    static void promise3_text_answersHowManyLines() {
        JawBench x = new JawBench();
        Check.due("no bytes", 0, x.text(0));
        Check.due("blanks alone", 0, Check.tell(x, " \n\n  "));
        Check.due("one", 1, Check.tell(x, "lever 5;"));
        Check.due("one with blanks", 1, Check.tell(x, "\n lever\n5 ; "));
        Check.due("two", 2, Check.tell(x, "lever 5;rest 3;"));
        String others = "lever 1;rest 0;seed 0;law force 1;law slack 1;law wear 1;";
        Check.due("as many as there can be", 26, Check.tell(x, ALL_OF_FOUR + ALL_OF_SIX + Edges.suits(0, 9, "a a 0") + others));
        Check.fault(";", 1, 0);
        Check.fault("lever 5;;", 1, 8);
        Check.fault("lever 5", 1, 7);
        Check.fault("lever 5 rest 3;", 1, 8);
    }

    @Says("NONE with a FAULT, all stays")
    static void promise3_text_leavesAllWithAFault() {
        JawBench x = Check.told("judge a 10 2;nut n 31 9 3;suit s a n 0;suit t a n 4;lever 50;rest 9;law wear 2;");
        x.stone(1, true);
        x.go(1);
        x.keep();
        x.note(0, 0, true);
        x.note(0, 1, true);
        x.known(1);
        x.oil(3);
        String faulty = "judge b 77 3;judge c 1 1;nut m 1 1 1;nut k 1 1 1;suit z b m 1;suit y b m 1;suit x b m 1;lever 7;rest 1;"
                + "law wear 5+5;law slack 3;law force 9;lever 8;";
        Check.due("a fault at the end", -1, Check.tell(x, faulty));
        Check.due("empty tape all the same", -2, x.text(1));
        Edges.all("count", new int[] {1, 1, 2, 1, 1, 53, 1, 0, 0, 0, 0, 0, 1, 2, 1, 1}, x::count);
        Check.due("name stays", 0, x.named(0, Check.letters("a")));
        Check.due("no name comes", -1, x.named(0, Check.letters("b")));
        Check.due("jaw stays", 10, x.judge(0, 0));
        Check.due("teeth stay", 1, x.judge(0, 1));
        Check.due("hard stays", 31, x.nut(0, 0));
        Check.due("stone stays", 1, Check.suit(x, 1, 3));
        Check.due("verdict stays", 0, Check.suit(x, 0, 4));
        Check.due("wear stays", 2, x.law(2, 0, 0));
        Check.due("no slack comes", Long.MIN_VALUE, x.law(1, 0, 0));
        Check.due("no force comes", Long.MIN_VALUE, x.law(0, 0, 0));
        Check.due("the rest stays", 53, x.ahead(7, 5));
        Check.due("the rest stays", 50, x.ahead(8, 5));
        Check.due("undo stays", 0, x.undo());
        Check.due("the image stays", 1, x.back());
    }

    @Says("The TAPE's first n bytes (it is empty then) are the TEXT")
    static void promise3_text_forgetsThoseAhead() {
        String full = "judge a 10 2;judge b 10 2;nut n 31 9 3;nut m 1 1 1;suit s a n 0;suit t b m 4;lever 9;rest 3;seed 7;"
                + "law force 7;law slack 8;law wear 9;";
        String fault = "judge c 1 1;nut k 1 1 1;suit u c k 0;lever 5;rest 1;seed 1;law force 1+1;law slack 2;law wear #";
        String bare = "judge a 10 0;nut n 5 1 1;";
        JawBench x = new JawBench();
        // More than two texts one behind another, with faults among them in every order.
        for (int i = 0; i < 8; i++) {
            for (int k = 0; k < i % 3; k++) {
                Check.due("a fault", -1, Check.tell(x, fault));
                Check.due("which", 1, x.fault(0));
                Check.due("where", fault.length() - 1, x.fault(1));
            }
            Check.due("told whole", 12, Check.tell(x, full));
            Edges.all("of the whole one", new int[] {2, 2, 2, 3, 0, 9}, x::count);
            Check.due("told bare", 2, Check.tell(x, bare));
            Edges.all("of the bare one", new int[] {1, 1, 0, 0, 0, 50}, x::count);
            Check.due("no teeth", 0, x.judge(0, 1));
            Check.due("no second judge", -1, x.named(0, Check.letters("b")));
            Check.due("no force", 5, x.force(0, 0));
            Check.due("no slack", 10, x.slack(0, 0));
            Check.due("no wear", Long.MIN_VALUE, x.law(2, 0, 0));
            x.oil(1);
            Check.due("no vacation", 51, x.ahead(99, 5));
            if (i % 2 == 0) {
                Check.due("bare again", 2, Check.tell(x, bare));
                Edges.all("of the second bare one", new int[] {1, 1, 0, 0, 0, 50}, x::count);
            }
        }
    }

    @Says("-2, and the TAPE stays: there are not so many, n is below 0.")
    static void promise3_text_isNotReadBeyondTheTape() {
        JawBench x = new JawBench();
        Check.feed(x, "lever 7;            ");
        for (int n : new int[] {Integer.MIN_VALUE, -2, -1, 21, 22, Integer.MAX_VALUE}) {
            Check.due("text(" + n + ")", -2, x.text(n));
        }
        Check.due("lever as it was", 50, x.count(5));
        Check.due("the tape stays", 40, x.feed(0x20202020, 0x20202020, 0x20202020, 0x20202020, 0x20202020));
        Check.due("41", -2, x.text(41));
        Check.due("40", 1, x.text(40));
        Check.due("lever then", 7, x.count(5));
        Check.due("none is left", -2, x.text(1));
        Check.due("no byte is enough", 0, x.text(0));
        Check.due("no lines then", 50, x.count(5));
    }

    @Says("LINE: judge W N N | nut W N N N | suit W W W N | lever N | rest N | seed N | law RULE E.")
    static void promise3_text_wantsEachTokenOfALine() {
        String[] lines = {"judge b 1 0 ;", "nut m 1 0 0 ;", "suit t a n 0 ;", "lever 5 ;", "rest 5 ;", "seed 5 ;", "law wear 5 ;"};
        for (String line : lines) {
            Check.fault(BOTH + line, 0, -1);
            String[] tokens = line.split(" ");
            String left = BOTH;
            for (String token : tokens) {
                if (!token.equals(";")) {
                    left += token + " ";
                    boolean isLast = left.length() == BOTH.length() + line.length() - 1;
                    Check.fault(left + ";", isLast ? 0 : 1, isLast ? -1 : left.length());
                }
            }
            Check.fault(left + "7;", 1, left.length());
            Check.fault(left + "x;", 1, left.length());
        }
        Check.fault("law 5;", 1, 4);
        Check.fault("judge 5 b 0;", 1, 6);
        Check.fault("judge b c 0;", 1, 8);
        Check.fault(BOTH + "suit t a 0;", 1, BOTH.length() + 9);
        Check.fault("word 5;", 1, 0);
        Check.fault("force 5;", 1, 0);
        Check.fault("day 5;", 1, 0);
    }

    @Says("RULE: force | slack | wear.")
    static void promise3_text_hasThreeRules() {
        for (String word : PlainModel.LANGUAGE) {
            boolean isRule = word.equals("force") || word.equals("slack") || word.equals("wear");
            Check.fault("law " + word + " 1;", isRule ? 0 : 1, isRule ? -1 : 4);
        }
        Check.fault("law forces 1;", 1, 4);
        Check.fault("law wea 1;", 1, 4);
        JawBench x = Check.told(BOTH + "law wear 3;law force 1;law slack 2;");
        Check.due("force", 1, x.law(0, 0, 0));
        Check.due("slack", 2, x.law(1, 0, 0));
        Check.due("wear", 3, x.law(2, 0, 0));
    }

    @Says({"Words: small letters in a row;", "N: digits. Blanks 10, 32."})
    static void promise3_text_knowsEachByte() {
        for (int b = 0; b < 256; b++) {
            char c = (char) b;
            boolean blank = b == 10 || b == 32;
            boolean letter = b >= 97 && b <= 122;
            boolean digit = b >= 48 && b <= 57;
            boolean fine = blank || letter || digit;
            Check.fault("judge a" + c + "1 2;", fine ? 0 : 1, fine ? -1 : 7);
            Check.fault(c + "lever 5;", blank ? 0 : 1, blank ? -1 : 0);
            boolean sign = "+-*/<=>".indexOf(c) >= 0;
            boolean inE = digit || sign;
            Check.fault("law force 1" + c + "2;", inE ? 0 : 1, inE ? -1 : blank || c == ';' ? 12 : 11);
        }
        JawBench x = Check.told("judge az09 9;");
        Check.due("a row of letters ends at a digit", 0, x.named(0, Check.letters("az")));
        Check.due("zeros ahead", 9, x.judge(0, 0));
    }

    @Says("W: one of 1 .. 6 letters, none of those of the language;")
    static void promise3_text_takesNamesOfOneToSixLetters() {
        Check.fault("judge  1 2;", 1, 7);
        Check.fault("judge a 1 2;", 0, -1);
        Check.fault("judge abcde 1 2;", 0, -1);
        Check.fault("judge abcdef 1 2;", 0, -1);
        Check.fault("judge abcdefg 1 2;", 1, 6);
        Check.fault("judge abcdefghijklmnopqrstuvwxyz 1 2;", 1, 6);
        for (String word : PlainModel.LANGUAGE) {
            Check.fault("judge " + word + " 1 2;", 1, 6);
            Check.fault("judge " + word.substring(1) + " 1 2;", 0, -1);
            String longer = word + "a";
            Check.fault("judge " + longer + " 1 2;", longer.length() > 6 ? 1 : 0, longer.length() > 6 ? 6 : -1);
        }
        Check.due("words of the language", 19, PlainModel.LANGUAGE.size());
        for (String word : new String[] {"worth", "knot", "gain", "stone", "whole"}) {
            Check.fault("judge " + word + " 1 2;", 0, -1);
        }
    }

    @Says("JUDGES, at most 4: JAW 1 .. 99, TEETH 0 .. 9.")
    static void promise3_text_bindsJudges() {
        numbers("judge a ", " 0;", 1, 99);
        numbers("judge a 1 ", ";", 0, 9);
        Check.fault(ALL_OF_FOUR, 0, -1);
        Check.fault(ALL_OF_FOUR + "judge e 1 0;", 2, ALL_OF_FOUR.length());
        JawBench x = Check.told("judge a 1 0;judge b 99 9;");
        Check.due("jaw 1", 1, x.judge(0, 0));
        Check.due("teeth 0", 0, x.judge(0, 1));
        Check.due("jaw 99", 99, x.judge(1, 0));
        Check.due("teeth 9", 9, x.judge(1, 1));
    }

    @Says("NUTS, at most 6: HARD 0 .. 99, WORTH 0 .. 99, BITTER 0 .. 9.")
    static void promise3_text_bindsNuts() {
        numbers("nut a ", " 0 0;", 0, 99);
        numbers("nut a 0 ", " 0;", 0, 99);
        numbers("nut a 0 0 ", ";", 0, 9);
        Check.fault(ALL_OF_SIX, 0, -1);
        Check.fault(ALL_OF_SIX + "nut g 0 0 0;", 2, ALL_OF_SIX.length());
        JawBench x = Check.told("nut a 0 0 0;nut b 99 98 9;");
        Edges.all("least", new int[] {0, 0, 0}, what -> x.nut(0, what));
        Edges.all("most", new int[] {99, 98, 9}, what -> x.nut(1, what));
    }

    @Says("SUITS, at most 10: before a JUDGE, about a NUT, on a DAY 0 .. 99.")
    static void promise3_text_bindsSuits() {
        numbers(BOTH + "suit s a n ", ";", 0, 99);
        String ten = "judge a 1 0;judge b 1 0;nut n 1 0 0;nut m 1 0 0;nut k 1 0 0;" + Edges.suits(0, 8, "a n 0") + Edges.suits(9, 9, "b k 99");
        Check.fault(ten, 0, -1);
        Check.fault(ten + Edges.suits(10, 10, "a n 0"), 2, ten.length());
        JawBench x = Check.told(ten);
        Check.due("ten", 10, x.count(2));
        Check.due("judge of the tenth", 1, Check.suit(x, 9, 0));
        Check.due("nut of the tenth", 2, Check.suit(x, 9, 1));
        Check.due("day of the tenth", 99, Check.suit(x, 9, 2));
        Check.due("day of the first", 0, Check.suit(x, 0, 2));
    }

    @Says("lever: LEVER 1 .. 99 (50 without).")
    static void promise3_text_bindsTheLever() {
        numbers("lever ", ";", 1, 99);
        Check.due("1", 1, Check.told("lever 1;").count(5));
        Check.due("99", 99, Check.told("lever 99;").count(5));
        JawBench x = Check.told("lever 99;");
        Check.tell(x, "rest 1;");
        Check.due("without", 50, x.count(5));
    }

    @Says("rest: a vacation each so many DAYS 0 .. 30 (0: none; 0 without).")
    static void promise3_text_bindsTheRest() {
        numbers("rest ", ";", 0, 30);
        for (int rest = -1; rest <= 30; rest++) {
            JawBench x = Check.told(rest < 0 ? "" : "rest " + rest + ";");
            x.oil(5);
            for (int n : new int[] {1, 2, 29, 30, 99}) {
                Check.due("rest " + rest + " in " + n, rest > 0 && n >= rest ? 50 : 55, x.ahead(n, 5));
            }
        }
        JawBench x = Check.told("rest 3;");
        Check.tell(x, "lever 50;");
        x.oil(5);
        Check.due("that of a text ahead is gone", 55, x.ahead(99, 5));
    }

    @Says("seed: 0 .. 99999 (0).")
    static void promise3_text_bindsTheSeed() {
        numbers("seed ", ";", 0, 99999);
    }

    @Says("All numbered as they come; JUDGES, NUTS, SUITS have names of their kind.")
    static void promise3_text_numbersAsTheyCome() {
        JawBench x = Check.told("nut c 1 1 1;judge b 1 1;nut a 2 2 2;judge c 2 2;suit c b a 0;judge a 3 3;suit b a c 1;suit a c c 2;");
        String[] names = {"b", "c", "a", "c", "a", "", "c", "b", "a"};
        for (int i = 0; i < names.length; i++) {
            Check.due("named " + i, names[i].isEmpty() ? -1 : i % 3, x.named(i / 3, Check.letters(names[i])));
        }
        Check.due("jaw of the third", 3, x.judge(2, 0));
        Check.due("hard of the second", 2, x.nut(1, 0));
        int[][] suits = {{0, 1, 0}, {2, 0, 1}, {1, 0, 2}};
        for (int s = 0; s < suits.length; s++) {
            for (int what = 0; what < 3; what++) {
                Check.due("suit " + s + " " + what, suits[s][what], Check.suit(x, s, what));
            }
        }
    }

    @Says("E: A { or A }. A: B { and B }. B: not B | C.")
    static void promise3_text_readsOrAndNot() {
        Check.value("1 or 0 and 0", 1);
        Check.value("0 and 0 or 1", 1);
        Check.value("0 or 0 or 0 or 7", 1);
        Check.value("1 and 1 and 1 and 0", 0);
        Check.value("(1 or 0) and 0", 0);
        Check.value("not 0 and 0", 0);
        Check.value("not 1 or 1", 1);
        Check.value("not not 7", 1);
        Check.value("not not not 7", 0);
        Check.value("not 1<0", 1);
        Check.value("not 0=1", 1);
        Check.value("1 and not 0", 1);
        Check.value("0 or not 1", 0);
        Check.fault("law force or 1;", 1, 10);
        Check.fault("law force 1 or;", 1, 14);
        Check.fault("law force and 1;", 1, 10);
        Check.fault("law force 1 and;", 1, 15);
        Check.fault("law force 1 or and 1;", 1, 15);
        Check.fault("law force not;", 1, 13);
        Check.fault("law force not and 1;", 1, 14);
        Check.fault("law force 1 not 1;", 1, 12);
        Check.fault("law force 1 or or 1;", 1, 15);
    }

    @Says("C: S [ ( < | <= | = | <> | >= | > ) S ].")
    static void promise3_text_comparesOnceAtMost() {
        String[] signs = {"<", "<=", "=", "<>", ">=", ">"};
        int[][] due = {{1, 0, 0}, {1, 1, 0}, {0, 1, 0}, {1, 0, 1}, {0, 1, 1}, {0, 0, 1}};
        for (int i = 0; i < signs.length; i++) {
            Check.value("1" + signs[i] + "2", due[i][0]);
            Check.value("2" + signs[i] + "2", due[i][1]);
            Check.value("3" + signs[i] + "2", due[i][2]);
            Check.value("1+1" + signs[i] + "4/2", due[i][1]);
            for (String other : signs) {
                Check.fault("law force 1 " + signs[i] + " 2 " + other + " 3;", 1, 15 + signs[i].length());
                Check.fault("law force (1 " + signs[i] + " 2)" + other + " 3;", 0, -1);
                Check.fault("law force 1 " + signs[i] + " 2 and 1 " + other + " 3;", 0, -1);
                Check.fault("law force 1 " + signs[i] + " 2 or 1 " + other + " 3;", 0, -1);
                Check.fault("law force not 1 " + signs[i] + " 2 " + other + " 3;", 1, 19 + signs[i].length());
            }
            Check.fault("law force 1 " + signs[i] + " not 2;", 1, 13 + signs[i].length());
            Check.fault("law force 1 " + signs[i] + ";", 1, 12 + signs[i].length());
            Check.fault("law force " + signs[i] + " 1;", 1, 10);
        }
    }

    @Says("S: T { ( + | - ) T }. T: P { ( * | / ) P }.")
    static void promise3_text_readsSumsAndProducts() {
        Check.value("1+2*3", 7);
        Check.value("2*3+1", 7);
        Check.value("9-4-3", 2);
        Check.value("9-4+3", 8);
        Check.value("60/6/5", 2);
        Check.value("60/6*5", 50);
        Check.value("7*3/2", 10);
        Check.value("7/2*3", 9);
        Check.value("1-2*3-4", -9);
        Check.value("20-8/4", 18);
        Check.fault("law force +1;", 1, 10);
        Check.fault("law force -1;", 1, 10);
        Check.fault("law force 1+-1;", 1, 12);
        Check.fault("law force 1*/1;", 1, 12);
        Check.fault("law force 1+;", 1, 12);
        Check.fault("law force 1/;", 1, 12);
        Check.fault("law force 1+not 1;", 1, 12);
        Check.fault("law force 1-not 1;", 1, 12);
        Check.fault("law force 1*not 1;", 1, 12);
        Check.fault("law force 1/not 1;", 1, 12);
        Check.fault("law force 1+(not 1);", 0, -1);
    }

    @Says("P: N | NAME | '(' E ')'; N of E 0 .. 9999.")
    static void promise3_text_readsParts() {
        numbers("law force ", ";", 0, 9999);
        numbers("law force jaw+", "*2;", 0, 9999);
        Check.value("0", 0);
        Check.value("9999", 9999);
        Check.value("00009999", 9999);
        Check.value("(((9)))", 9);
        Check.value("(1 or 0)+(2<3)*(7)", 8);
        Check.fault("law force ();", 1, 11);
        Check.fault("law force (1;", 1, 12);
        Check.fault("law force 1);", 1, 11);
        Check.fault("law force (1));", 1, 13);
        Check.fault("law force (1)(2);", 1, 13);
        Check.fault("law force (1 2);", 1, 13);
        Check.fault("law force 1 jaw;", 1, 12);
        Check.fault("law force (1+);", 1, 13);
        Check.fault("law force );", 1, 10);
    }

    @Says("NAME: jaw teeth hard bitter lever load day.")
    static void promise3_text_hasSevenNames() {
        for (String word : PlainModel.LANGUAGE) {
            boolean isName = List.of("jaw", "teeth", "hard", "bitter", "lever", "load", "day").contains(word);
            int place = word.equals("not") ? 13 : 10;
            Check.fault("law force " + word + ";", isName ? 0 : 1, isName ? -1 : place);
        }
        Check.fault("law force worth;", 1, 10);
        Check.fault("law force a;", 1, 10);
        Check.fault("judge a 1 1;law force a;", 1, 22);
    }

    @Says("A = (or > behind <) right behind < or > belongs to it.")
    static void promise3_text_joinsSignsRightBehindOneAnother() {
        Check.value("2<=2", 1);
        Check.value("2>=2", 1);
        Check.value("2<>2", 0);
        Check.fault("law force 1< =2;", 1, 13);
        Check.fault("law force 1> =2;", 1, 13);
        Check.fault("law force 1< >2;", 1, 13);
        Check.fault("law force 1<\n=2;", 1, 13);
        Check.fault("law force 1==2;", 1, 12);
        Check.fault("law force 1=<2;", 1, 12);
        Check.fault("law force 1=>2;", 1, 12);
        Check.fault("law force 1><2;", 1, 12);
        Check.fault("law force 1>>2;", 1, 12);
        Check.fault("law force 1<<2;", 1, 12);
        Check.fault("law force 1<==2;", 1, 13);
        Check.fault("law force 1<>=2;", 1, 13);
        Check.fault("law force 1<>>2;", 1, 13);
        Check.fault("law force 1>=>2;", 1, 13);
    }

    /** A number is fine from least to most, and too much beside them; zeros ahead and wraps don't matter. */
    private static void numbers(String ahead, String behind, int least, int most) {
        String there = ahead.endsWith(" ") || ahead.endsWith("+") ? ahead : ahead + " ";
        int place = there.length();
        Check.fault(there + least + behind, 0, -1);
        Check.fault(there + most + behind, 0, -1);
        Check.fault(there + "000000000000" + most + behind, 0, -1);
        if (least > 0) {
            Check.fault(there + (least - 1) + behind, 2, place);
        }
        Check.fault(there + (most + 1) + behind, 2, place);
        Check.fault(there + "0" + (most + 1) + behind, 2, place);
        Check.fault(there + most + "0" + behind, 2, place);
        for (String wrap : new String[] {"4294967297", "2147483649", "18446744073709551617", "1000000000001", "65537"}) {
            boolean fine = Long.parseLong(wrap.length() > 18 ? "999999999999999999" : wrap) <= most;
            Check.fault(there + wrap + behind, fine ? 0 : 2, fine ? -1 : place);
        }
    }
}
