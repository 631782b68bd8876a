/** Promises 1 to 5: a new object, feed, text, fault, named. */
public final class TestText {
    public static void main(String[] args) {
        newObject();
        feeding();
        telling();
        tokens();
        sayings();
        tooMuch();
        toldAlready();
        notTold();
        formulas();
        faultAsked();
        names();
        Check.end();
    }

    private static void newObject() {
        JawBench x = new JawBench();
        int[] due = {0, 0, 0, 0, 0, 50, 0, 0, 0, 0, 0, 0, 0, 0, 0, 0};
        for (int what = 0; what < due.length; what++) {
            Check.due("new count(" + what + ")", due[what], x.count(what));
        }
        Check.due("new text(1)", -2, x.text(1));
        Check.due("new fault(0)", 0, x.fault(0));
        Check.due("new fault(1)", -1, x.fault(1));
        Check.due("new back()", -1, x.back());
        Check.due("new suit", Check.INDEX_OUT_OF_BOUNDS, Check.suit(x, 0, 0));
        Check.due("new text(0)", 0, x.text(0));
    }

    private static void feeding() {
        JawBench x = new JawBench();
        for (int i = 1; i <= 35; i++) {
            Check.due("feed " + i, 20 * i, x.feed(0x6c657665, 0x72203120, 0x20202020, 0x20202020, 0x2020203b));
        }
        Check.due("feed beyond 700", -1, x.feed(0, 0, 0, 0, 0));
        Check.due("text beyond 700", -2, x.text(701));
        Check.due("text of 700", -1, x.text(700));
        Check.due("the second lever is told already", 3, x.fault(0));
        Check.due("and stands there", 20, x.fault(1));
        Check.due("feed of an empty tape", 20, x.feed(0x6c657665, 0x72203120, 0x20202020, 0x20202020, 0x2020203b));
        Check.due("text of what was fed, highest byte first", 1, x.text(20));
        Check.due("lever of it", 1, x.count(5));
        Check.due("feed of high bytes", 20, x.feed(-1, -1, -1, -1, -1));
        Check.due("text of high bytes", -1, x.text(1));
        Check.due("fault of high bytes", 1, x.fault(0));
        Check.due("place of high bytes", 0, x.fault(1));
    }

    private static void telling() {
        JawBench x = Check.told("judge a 10 2;nut n 5 9 3;suit s a n 4;lever 20;law wear 2;");
        x.stone(0, true);
        x.keep();
        x.note(0, 1, true);
        x.known(1);
        x.go(1);
        x.oil(3);
        Check.feed(x, "lever 0;");
        Check.due("text(-1)", -2, x.text(-1));
        Check.due("text beyond the tape", -2, x.text(21));
        Check.due("fault stays with -2", 0, x.fault(0));
        Check.due("the tape stays with -2", 40, Check.feed(x, " "));
        Check.due("text with a fault", -1, x.text(8));
        Check.due("the tape is empty then", -2, x.text(1));
        int[] due = {1, 1, 1, 1, 1, 23, 0, 0, 0, 0, 0, 0, 0, 1, 1, 1};
        for (int what = 0; what < due.length; what++) {
            Check.due("all stays with a fault, count(" + what + ")", due[what], x.count(what));
        }
        Check.due("the stone stays with a fault", 1, Check.suit(x, 0, 3));
        Check.due("bytes behind n aren't told", 1, tellFirst(x, "lever 7;lever 0;", 8));
        int[] then = {0, 0, 0, 0, 0, 7, 0, 0, 0, 0, 0, 0, 0, 0, 0, 0};
        for (int what = 0; what < then.length; what++) {
            Check.due("anew by a text, count(" + what + ")", then[what], x.count(what));
        }
        Check.due("no image by a text", -1, x.back());
        Check.due("nothing to undo by a text", -1, x.undo());
        Check.tell(x, "judge a 10 2;nut n 5 9 3;suit s a n 4;");
        Check.due("no stone by a text", 0, Check.suit(x, 0, 3));
        Check.due("lever without a line", 50, x.count(5));
        x.note(0, 1, true);
        Check.due("all are known by a text", 1, x.count(14));
        x.go(5);
        Check.tell(x, "judge a 10 2;nut n 5 9 3;suit s a n 4;");
        Check.due("nothing tried by a text", -1, Check.suit(x, 0, 4));
        Check.due("day 0 by a text", 0, x.count(4));
        cut();
        Check.due("blanks alone", 0, Check.tell(x, " \n  \n"));
        Check.due("no lines, no suits", 0, x.count(2));
    }

    /** The text ends within a token: what stands behind it on the tape doesn't count. */
    private static void cut() {
        String[] texts = {"lever 55;", "judge abcd 1 1;", "law force 1<=2;", "law force 1<>2;", "law force 1>=2;", "lever 5;   ;"};
        int[] lengths = {7, 9, 12, 12, 12, 10};
        for (int i = 0; i < texts.length; i++) {
            JawBench x = new JawBench();
            boolean whole = i == texts.length - 1;
            Check.due("cut " + texts[i], whole ? 1 : -1, tellFirst(x, texts[i], lengths[i]));
            Check.due("cut fault", whole ? 0 : 1, x.fault(0));
            Check.due("cut place", whole ? -1 : lengths[i], x.fault(1));
        }
    }

    private static int tellFirst(JawBench x, String text, int n) {
        Check.feed(x, text);
        return x.text(n);
    }

    private static void tokens() {
        Check.fault("judge\na\n1 2 ; nut n1 2 3;", 0, -1);
        Check.fault("judge a1 2;", 0, -1);
        Check.fault("judge a 1 2 3;", 1, 12);
        Check.fault("judge a 1;", 1, 9);
        Check.fault("judge a 1 2", 1, 11);
        Check.fault("judge a 1 2 ", 1, 12);
        Check.fault("judge", 1, 5);
        Check.fault("judge a 007 0000000000000000000000000001;", 0, -1);
        Check.fault("judge a 4294967297 1;", 2, 8);
        Check.fault("judge a 18446744073709551617 1;", 2, 8);
        Check.fault("judge\t", 1, 5);
        Check.fault("Judge a 1 2;", 1, 0);
        Check.fault("judge A 1 2;", 1, 6);
        Check.fault("judge abcdef 1 2;", 0, -1);
        Check.fault("judge abcdefg 1 2;", 1, 6);
        Check.fault("judges a 1 2;", 1, 0);
        Check.fault("bittera", 1, 0);
        Check.fault("law force bittera;", 1, 10);
        Check.fault(";", 1, 0);
        Check.fault("lever 5;;", 1, 8);
        Check.fault("5;", 1, 0);
        Check.fault("lever x;", 1, 6);
        Check.fault("lever 5,", 1, 7);
        Check.fault("jaw 5;", 1, 0);
        Check.fault("lever\u0000 5;", 1, 5);
        Check.fault("lever\u008a 5;", 1, 5);
        for (String word : PlainModel.LANGUAGE) {
            Check.fault("judge " + word + " 1 2;", 1, 6);
            Check.fault("judge " + word + "z 1 2;", word.length() < 6 ? 0 : 1, word.length() < 6 ? -1 : 6);
        }
        for (String line : new String[] {"judge", "nut", "suit", "lever", "rest", "seed", "law"}) {
            Check.fault(line, 1, line.length());
            Check.fault(line + ";", 1, line.length());
        }
    }

    private static void sayings() {
        JawBench x = Check.told("judge ned 99 9; judge gus 1 0; nut ned 99 98 9; nut b 0 0 0; suit ned gus ned 99;"
                + "suit t ned b 0; lever 99; rest 30; seed 99999; law force 1; law slack 2; law wear 3;");
        Check.due("jaw", 99, x.judge(0, 0));
        Check.due("teeth", 9, x.judge(0, 1));
        Check.due("least jaw", 1, x.judge(1, 0));
        Check.due("hard", 99, x.nut(0, 0));
        Check.due("worth", 98, x.nut(0, 1));
        Check.due("bitter", 9, x.nut(0, 2));
        Check.due("judge of the first", 1, Check.suit(x, 0, 0));
        Check.due("nut of the first", 0, Check.suit(x, 0, 1));
        Check.due("day of the first", 99, Check.suit(x, 0, 2));
        Check.due("judge of the second", 0, Check.suit(x, 1, 0));
        Check.due("nut of the second", 1, Check.suit(x, 1, 1));
        Check.due("lever", 99, x.count(5));
        Check.due("knots", 3, x.count(3));
    }

    private static void tooMuch() {
        Check.fault("judge a 0 0;", 2, 8);
        Check.fault("judge a 100 0;", 2, 8);
        Check.fault("judge a 1 10;", 2, 10);
        Check.fault("nut a 100 0 0;", 2, 6);
        Check.fault("nut a 0 100 0;", 2, 8);
        Check.fault("nut a 0 0 10;", 2, 10);
        Check.fault("judge a 1 0;nut a 0 0 0;suit a a a 100;", 2, 35);
        Check.fault("lever 0;", 2, 6);
        Check.fault("lever 100;", 2, 6);
        Check.fault("rest 0;", 0, -1);
        Check.fault("rest 31;", 2, 5);
        Check.fault("seed 0;", 0, -1);
        Check.fault("seed 99999;", 0, -1);
        Check.fault("seed 100000;", 2, 5);
        Check.fault("seed 999990;", 2, 5);
        Check.fault("seed 0000099999;", 0, -1);
        String four = "judge a 1 0;judge b 1 0;judge c 1 0;judge d 1 0;";
        Check.fault(four, 0, -1);
        Check.fault(four + " judge a 1 0;", 2, four.length() + 1);
        Check.fault(four + "judge", 2, four.length());
        String six = "nut a 1 0 0;nut b 1 0 0;nut c 1 0 0;nut d 1 0 0;nut e 1 0 0;nut f 1 0 0;";
        Check.fault(six, 0, -1);
        Check.fault(six + "nut g 1 0 0;", 2, six.length());
        StringBuilder ten = new StringBuilder("judge a 1 0;nut a 1 0 0;");
        for (char c = 'a'; c <= 'j'; c++) {
            ten.append("suit ").append(c).append(" a a 1;");
        }
        Check.fault(ten.toString(), 0, -1);
        Check.fault(ten + "suit k a a 1;", 2, ten.length());
        Check.fault("law force 9999;", 0, -1);
        Check.fault("law force 10000;", 2, 10);
        Check.fault("law force ((((((((1))))))))+((((((((1))))))));", 0, -1);
        Check.fault("law force (((((((((1)))))))));", 2, 18);
        Check.fault("law force 1 (((((((((;", 1, 12);
    }

    private static void toldAlready() {
        Check.fault("judge a 1 0;judge a 1 0;", 3, 18);
        Check.fault("nut a 1 0 0;nut a 1 0 0;", 3, 16);
        Check.fault("judge a 1 0;nut a 1 0 0;suit a a a 1;suit a a a 1;", 3, 42);
        Check.fault("lever 5;lever 5;", 3, 8);
        Check.fault("lever 5;lever", 3, 8);
        Check.fault("rest 0;rest 0;", 3, 7);
        Check.fault("seed 0;seed 0;", 3, 7);
        Check.fault("law force 1;law force 1;", 3, 16);
        Check.fault("law slack 1;law slack 1;", 3, 16);
        Check.fault("law wear 1;law wear 1;", 3, 15);
        Check.fault("law wear 1;law force 1;law slack 1;", 0, -1);
    }

    private static void notTold() {
        Check.fault("suit a a a 1;", 4, 7);
        Check.fault("judge a 1 1;suit a a a 1;", 4, 21);
        Check.fault("nut a 1 1 1;suit a a a 1;judge a 1 1;", 4, 19);
        Check.fault("judge a 1 1;nut b 1 1 1;suit s b b 1;", 4, 31);
        Check.fault("judge a 1 1;nut b 1 1 1;suit s a a 1;", 4, 33);
        Check.fault("judge a 1 1;nut b 1 1 1;suit s a day 1;", 1, 33);
        Check.fault("judge a 1 1;nut b 1 1 1;suit s abcdefgh b 1;", 1, 31);
    }

    private static void formulas() {
        Check.fault("law", 1, 3);
        Check.fault("law force", 1, 9);
        Check.fault("law force;", 1, 9);
        Check.fault("law jaw 1;", 1, 4);
        Check.fault("law w 1;", 1, 4);
        for (String word : PlainModel.LANGUAGE) {
            boolean isRule = PlainModel.RULES.contains(word);
            Check.fault("law " + word + " 1;", isRule ? 0 : 1, isRule ? -1 : 4);
            boolean isName = PlainModel.NAMES.contains(word);
            int at = word.equals("not") ? 13 : 10;
            Check.fault("law force " + word + ";", isName ? 0 : 1, isName ? -1 : at);
        }
        Check.fault("law force 1+;", 1, 12);
        Check.fault("law force 1+", 1, 12);
        Check.fault("law force +1;", 1, 10);
        Check.fault("law force 1 2;", 1, 12);
        Check.fault("law force jaw teeth;", 1, 14);
        Check.fault("law force 1<2<3;", 1, 13);
        Check.fault("law force (1<2)<3;", 0, -1);
        Check.fault("law force 1<2 and 2<3 or 3=3;", 0, -1);
        Check.fault("law force 1< =2;", 1, 13);
        Check.fault("law force 1<=2;", 0, -1);
        Check.fault("law force 1<>2;", 0, -1);
        Check.fault("law force 1>=2;", 0, -1);
        Check.fault("law force 1>2;", 0, -1);
        Check.fault("law force 1><2;", 1, 12);
        Check.fault("law force 1=<2;", 1, 12);
        Check.fault("law force 1<=>2;", 1, 13);
        Check.fault("law force 1==2;", 1, 12);
        Check.fault("law force 1+not 2;", 1, 12);
        Check.fault("law force 1<not 2;", 1, 12);
        Check.fault("law force not not not 1<2;", 0, -1);
        Check.fault("law force 1 and not 2 or not 3;", 0, -1);
        Check.fault("law force 1+(not 2);", 0, -1);
        Check.fault("law force 1 not 2;", 1, 12);
        Check.fault("law force not;", 1, 13);
        Check.fault("law force and 1;", 1, 10);
        Check.fault("law force 1 and or 1;", 1, 16);
        Check.fault("law force (1;", 1, 12);
        Check.fault("law force (1", 1, 12);
        Check.fault("law force 1);", 1, 11);
        Check.fault("law force ();", 1, 11);
        Check.fault("law force (1)(2);", 1, 13);
        Check.fault("law force worth;", 1, 10);
        Check.fault("law force judge;", 1, 10);
        Check.fault("law force force;", 1, 10);
        Check.fault("law force 1 % 2;", 1, 12);
        Check.fault("law force 2jaw;", 1, 11);
        knots();
    }

    private static void knots() {
        StringBuilder e = new StringBuilder("law force 1");
        for (int i = 0; i < 31; i++) {
            e.append("+1");
        }
        Check.fault(e + ";", 0, -1);
        Check.fault(e + ";law wear 1;", 0, -1);
        JawBench x = Check.told(e + ";law wear 1;");
        Check.due("64 knots", 64, x.count(3));
        Check.fault(e + "+1;", 2, e.length() + 1);
        Check.fault(e + ";law wear 1<2;", 2, e.length() + 11);
        Check.fault(e + ";law wear not 1;", 2, e.length() + 14);
        Check.fault(e + ";law wear ((1 and 1));", 2, e.length() + 14);
        Check.fault(e + ";law wear 1 2;", 1, e.length() + 12);
        Check.fault(e + ";law wear 1;law slack not;", 2, e.length() + 22);
        Check.fault(e + ";law wear 1;law slack ;", 1, e.length() + 22);
        Check.due("parentheses are no knots", 1, Check.told("law force ((((1))));").count(3));
        Check.due("each sign is one", 6, Check.told("law force not(1<=2)or(3);").count(3));
    }

    private static void faultAsked() {
        JawBench x = new JawBench();
        Check.tell(x, "lever 0;");
        Check.due("fault(2)", -1, x.fault(2));
        Check.due("fault(-1)", -1, x.fault(-1));
        Check.due("fault(0)", 2, x.fault(0));
        Check.due("fault(1)", 6, x.fault(1));
        Check.tell(x, "lever 5;");
        Check.due("fault(0) without", 0, x.fault(0));
        Check.due("fault(1) without", -1, x.fault(1));
    }

    private static void names() {
        JawBench x = Check.told("judge a 1 0;judge zebra 1 0;judge abcdef 1 0;nut z 1 1 1;nut a 1 1 1;suit aa a z 1;");
        Check.due("a", 0, x.named(0, 1 << 25));
        Check.due("zebra", 1, x.named(0, Check.letters("zebra")));
        Check.due("abcdef", 2, x.named(0, (1 << 25) + (2 << 20) + (3 << 15) + (4 << 10) + (5 << 5) + 6));
        Check.due("z of nuts", 0, x.named(1, 26 << 25));
        Check.due("a of nuts", 1, x.named(1, 1 << 25));
        Check.due("aa of suits", 0, x.named(2, (1 << 25) + (1 << 20)));
        Check.due("a of suits", -1, x.named(2, 1 << 25));
        Check.due("a, the lowest bits", -1, x.named(0, 1));
        Check.due("none", -1, x.named(0, 0));
        Check.due("a with more bits", -1, x.named(0, (1 << 25) + (1 << 30)));
        Check.due("a with the sign", -1, x.named(0, (1 << 25) | Integer.MIN_VALUE));
        Check.due("another kind", -1, x.named(3, 1 << 25));
        Check.due("a kind below", -1, x.named(-1, 1 << 25));
        Check.tell(x, "judge b 1 0;");
        Check.due("names of the text ahead are gone", -1, x.named(0, 1 << 25));
    }
}
