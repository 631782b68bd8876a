/** Promises 18 to 30, 35 and 36: what is asked of days that are only thought of. */
public final class TestThought {
    public static void main(String[] args) {
        ahead();
        deal();
        order();
        enough();
        spoil();
        settle();
        twins();
        likely();
        wholeBy();
        docket();
        crown();
        nextTooth();
        chance();
        tried();
        nothingIsChanged();
        Check.end();
    }

    private static void ahead() {
        JawBench x = Check.told(TestCourt.FOUR);
        int[] none = {0, 0, 0, 0, 0, 50, 2};
        int[] two = {1, 1, 1, 1, 21, 47, 2};
        for (int what = 0; what <= 6; what++) {
            Check.due("ahead(0, " + what + ")", none[what], x.ahead(0, what));
            Check.due("ahead(2, " + what + ")", two[what], x.ahead(2, what));
            Check.due("ahead(99, " + what + ")", two[what], x.ahead(99, what));
        }
        x.go(1);
        int[] one = {1, 0, 0, 1, 0, 47, 2};
        for (int what = 0; what <= 6; what++) {
            Check.due("more from day 1, " + what, one[what], x.ahead(1, what));
        }
        Check.due("n -1", -1, x.ahead(-1, 0));
        Check.due("n 100", -1, x.ahead(100, 0));
        Check.due("what 7", -1, x.ahead(0, 7));
        Check.due("what -1", -1, x.ahead(0, -1));
        x = Check.told("judge a 10 3;judge b 10 4;nut n 99 9 3;suit s a n 0;suit t b n 4;");
        Check.due("teeth of all", 6, x.ahead(1, 6));
        Check.due("teeth of all", 5, x.ahead(5, 6));
    }

    private static void deal() {
        String text = "judge a 10 1;judge b 30 1;judge c 30 1;nut n 30 20 1;nut m 10 8 1;suit s a n 0;suit t b m 0;suit u a n 70;law wear 0;";
        JawBench x = Check.told(text);
        Check.due("the first who makes it whole", 1, x.deal(1, 0));
        Check.due("the judge of the second", 0, x.deal(1, 1));
        Check.due("one not tried in these days", 0, x.deal(1, 2));
        Check.due("there is no fourth", -2, x.deal(1, 3));
        Check.due("gain", 28, x.deal(1, 4));
        x.put(2, 59);
        Check.due("within 60 days", 1, x.deal(60, 2));
        Check.due("within 59 days", 0, x.deal(59, 2));
        Check.due("gain of 60", 48, x.deal(60, 4));
        Check.due("n 0", -1, x.deal(0, 4));
        Check.due("n 61", -1, x.deal(61, 4));
        Check.due("what 5", -1, x.deal(1, 5));
        Check.due("what -1", -1, x.deal(1, -1));
        x.go(60);
        Check.due("none is left", -2, x.deal(1, 0));
        Check.due("no gain is left", 0, x.deal(1, 4));
        Check.due("no judges", -1, new JawBench().deal(1, 0));
        Check.due("judges without suits", -2, Check.told("judge a 1 1;").deal(1, 0));
        // Only four are dealt: the fifth one stays with its own judge and counts all the same.
        x = Check.told("judge a 10 1;judge b 30 1;nut n 30 20 1;suit s a n 0;suit t a n 0;suit u a n 0;suit v a n 0;suit w a n 0;suit y b n 0;law wear 0;");
        Check.due("gain with those not dealt", 100, x.deal(1, 4));
        Check.due("the fourth", 1, x.deal(1, 3));
        // Only the last judge is strong enough: the last of 256 rows.
        x = Check.told("judge a 1 1;judge b 2 1;judge c 3 1;judge d 30 1;nut n 30 20 1;suit s a n 0;suit t a n 1;suit u a n 2;suit v a n 3;law wear 0;");
        for (int k = 0; k < 4; k++) {
            Check.due("the last judge of " + k, 3, x.deal(4, k));
        }
        Check.due("gain of the last row", 80, x.deal(4, 4));
        // 40 would be halved, 30 is whole: the least number of several judges alike.
        x = Check.told("judge a 40 1;judge b 30 1;judge c 30 1;nut n 30 20 1;suit s c n 0;law wear 0;");
        Check.due("the first of two alike", 1, x.deal(1, 0));
    }

    private static void order() {
        // ned's 40 at 30 is halved with the whole lever, whole once it is worn.
        JawBench x = Check.told(TestCourt.FOUR);
        Check.due("first", 1, x.order(0));
        Check.due("then", 0, x.order(1));
        Check.due("no more", -2, x.order(2));
        Check.due("gain", 31, x.order(5));
        Check.due("what 6", -1, x.order(6));
        Check.due("what -1", -1, x.order(-1));
        x.go(5);
        Check.due("none", -2, x.order(0));
        Check.due("gain of none", 0, x.order(5));
        // The sixth and the seventh come behind the five by numbers: load makes only the last two whole.
        x = Check.told("judge a 1 9;nut n 40 9 3;nut m 60 20 3;suit s a n 0;suit t a n 0;suit u a n 0;suit v a n 0;suit w a n 0;"
                + "suit y a n 0;suit z a m 0;law force load*10;law wear 0;");
        for (int i = 0; i < 5; i++) {
            Check.due("the first of rows alike", i, x.order(i));
        }
        Check.due("gain with those behind", 9 + 4 + 20, x.order(5));
        Check.due("put off ones aren't of this day", true, x.put(0, 1));
        Check.due("the first of this day", 1, x.order(0));
        // Each is whole only at its place: the last of 120 rows.
        x = Check.told("judge a 1 9;nut n 80 1 1;nut m 60 1 1;nut k 40 1 1;nut e 20 1 1;nut f 0 1 1;"
                + "suit s a n 0;suit t a m 0;suit u a k 0;suit v a e 0;suit w a f 0;law force load*20;law wear 0;");
        for (int k = 0; k < 5; k++) {
            Check.due("the last row, " + k, 4 - k, x.order(k));
        }
        Check.due("gain of the last row", 5, x.order(5));
    }

    private static void enough() {
        JawBench x = Check.told("judge a 40 2;judge b 20 0;nut n 30 20 1;nut m 8 10 0;suit s a n 0;");
        Check.due("40 times 38 by 50 is 30", 38, x.enough(0, 0));
        Check.due("by none", -2, x.enough(1, 0));
        Check.due("halved without teeth", 40, x.enough(1, 1));
        x.stone(0, true);
        Check.due("without a stone", 38, x.enough(0, 0));
        Check.due("no such judge", -1, x.enough(2, 0));
        Check.due("no such judge", -1, x.enough(-1, 0));
        Check.due("no such nut", -1, x.enough(0, 2));
        Check.due("no such nut", -1, x.enough(0, -1));
        Check.due("the least", 1, Check.told("judge a 40 2;nut n 0 1 1;").enough(0, 0));
        Check.due("the most", 99, Check.told("judge a 50 2;nut n 99 1 1;").enough(0, 0));
        Check.due("a law without a lever", -2, Check.told("judge a 50 2;nut n 9 1 1;law force 1;").enough(0, 0));
        Check.due("a law of the lever", 77, Check.told("judge a 50 2;nut n 9 1 1;law force (lever=77 or lever=80)*9;").enough(0, 0));
    }

    private static void spoil() {
        JawBench x = Check.told("judge a 30 9;nut n 30 20 1;nut m 30 30 1;nut k 30 50 1;suit s a n 0;suit t a m 0;suit u a k 1;suit v a k 9;law wear 0;law slack 5;");
        Check.due("it is so", 0, x.spoil(2, 100));
        Check.due("gain 100 of two days: one stone is enough, the least bits", 1, x.spoil(2, 99));
        Check.due("20 isn't enough, 30 is", 2, x.spoil(2, 70));
        Check.due("50", 4, x.spoil(2, 50));
        Check.due("two of them", 5, x.spoil(2, 30));
        Check.due("two others", 6, x.spoil(2, 20));
        Check.due("all three", 7, x.spoil(2, 0));
        Check.due("of one day", 3, x.spoil(1, 0));
        x.stone(0, true);
        Check.due("one has a stone", 6, x.spoil(2, 0));
        Check.due("n 0", -1, x.spoil(0, 0));
        Check.due("n 61", -1, x.spoil(61, 0));
        Check.due("bound -1", -1, x.spoil(1, -1));
        Check.due("bound 1000", -1, x.spoil(1, 1000));
        Check.due("bound 999", 0, x.spoil(60, 999));
        x = Check.told("judge a 30 1;nut n 5 20 1;suit s a n 0;law force hard;");
        Check.due("by none", -2, x.spoil(1, 19));
        x = Check.told("judge a 30 1;nut n 30 20 1;nut m 30 30 1;suit s a n 0;suit t a m 1;law wear 0;law slack 5;");
        Check.due("one stone costs the tooth, and so the next one too", 1, x.spoil(2, 0));
    }

    private static void settle() {
        // verdict whole, worth 20: the first one would rather not settle.
        JawBench x = Check.told("judge a 30 1;nut n 30 20 1;suit s a n 0;");
        Check.due("one rest", 1, x.rests(0));
        Check.due("not settled by the first", 10, x.rest(0, 0));
        Check.due("no second", -2, x.rest(0, 1));
        Check.due("no such suit", -1, x.rests(1));
        Check.due("no such suit", -1, x.rests(-1));
        Check.due("no such suit", -1, x.rest(1, 0));
        Check.due("k -1", -1, x.rest(0, -1));
        x.stone(0, true);
        // kept: 10 each by settling, else nothing: (0, 0) alone.
        Check.due("with its stone", 1, x.rests(0));
        Check.due("both settle", 0, x.rest(0, 0));
        // whole, worth 10: 5 settled, 10 - 5 not: both (0, 0) and (1, 0).
        x = Check.told("judge a 30 1;nut n 30 10 1;suit s a n 0;");
        Check.due("two rests", 2, x.rests(0));
        Check.due("settled", 0, x.rest(0, 0));
        Check.due("not settled", 10, x.rest(0, 1));
        Check.due("no third", -2, x.rest(0, 2));
        // whole, worth 11: 5 settled, 6 not.
        x = Check.told("judge a 30 1;nut n 30 11 1;suit s a n 0;");
        Check.due("one rest, cut", 1, x.rests(0));
        Check.due("not settled, cut", 10, x.rest(0, 0));
        // worth 0, kept: paying is never better.
        x = Check.told("judge a 3 1;nut n 30 0 1;suit s a n 0;");
        Check.due("worth nothing", 1, x.rests(0));
        Check.due("settled for nothing", 0, x.rest(0, 0));
        x.go(1);
        Check.due("tried", -1, x.rests(0));
        Check.due("tried", -1, x.rest(0, 0));
    }

    private static void twins() {
        JawBench x = Check.told("judge a 30 1;judge b 10 1;nut n 30 9 1;nut m 9 9 1;suit s a n 0;suit t b n 0;suit u a n 0;suit v a m 0;suit w b n 5;law wear 0;");
        Check.due("none is tried", 0, x.twins());
        x.go(1);
        Check.due("s and t, t and u", 2, x.twins());
        x.go(5);
        Check.due("w is kept too: with s and u", 4, x.twins());
    }

    private static void likely() {
        JawBench x = Check.told("judge a 40 1;nut n 30 9 1;nut m 36 9 1;nut k 41 9 1;nut e 31 9 1;suit s a n 0;suit t a m 0;suit u a k 0;suit v a e 0;");
        Check.due("9 of 10", 9, x.likely(0, 0));
        Check.due("of 10", 10, x.likely(0, 1));
        Check.due("5 of 10", 1, x.likely(1, 0));
        Check.due("is 1 of 2", 2, x.likely(1, 1));
        Check.due("none", 0, x.likely(2, 0));
        Check.due("of 1", 1, x.likely(2, 1));
        Check.due("all", 1, x.likely(3, 0));
        Check.due("of 1", 1, x.likely(3, 1));
        x.stone(0, true);
        Check.due("with a stone", 0, x.likely(0, 0));
        Check.due("what 2", -1, x.likely(0, 2));
        Check.due("what -1", -1, x.likely(0, -1));
        Check.due("no such suit", -1, x.likely(4, 0));
        Check.due("no such suit", -1, x.likely(-1, 0));
        x.go(1);
        Check.due("tried", -1, x.likely(0, 0));
        x = Check.told("judge a 40 1;nut n 30 9 1;suit s a n 0;law force (hard>=34)*hard;");
        Check.due("the law sees the harder ones", 3, x.likely(0, 0));
        Check.due("of 5", 5, x.likely(0, 1));
    }

    private static void wholeBy() {
        JawBench x = Check.told("judge a 40 1;judge b 35 1;judge c 30 1;judge d 80 0;nut n 30 9 1;suit s a n 0;");
        Check.due("b and c", 6, x.wholeBy(0));
        x.stone(0, true);
        Check.due("with its stone", 0, x.wholeBy(0));
        x.oil(49);
        // 79, 69, 59, 79: at 60 slack 10.
        Check.due("with its stone and oil", 2, x.wholeBy(0));
        Check.due("no such suit", -1, x.wholeBy(1));
        Check.due("no such suit", -1, x.wholeBy(-1));
        x.go(1);
        Check.due("tried", -1, x.wholeBy(0));
    }

    private static void docket() {
        JawBench x = Check.told(TestCourt.FOUR);
        Check.due("day 0", 3, x.docket(0));
        Check.due("day 1", 12, x.docket(1));
        Check.due("day 2", 0, x.docket(2));
        x.put(0, 9999);
        Check.due("day 9999", 1, x.docket(9999));
        Check.due("day 0 without it", 2, x.docket(0));
        Check.due("day 10000", -1, x.docket(10000));
        Check.due("day -1", -1, x.docket(-1));
        x.go(1);
        Check.due("tried", 0, x.docket(0));
    }

    private static void crown() {
        JawBench x = Check.told("judge a 10 1;judge b 30 1;judge c 30 1;nut n 30 9 1;suit s b n 1;suit t c n 0;suit u c n 2;law wear 0;");
        Check.due("none yet: the first", 0, x.crown());
        x.go(1);
        Check.due("c has one", 2, x.crown());
        x.go(1);
        Check.due("b has one too", 1, x.crown());
        x.go(1);
        Check.due("c has two", 2, x.crown());
        Check.due("no judges", -1, new JawBench().crown());
    }

    private static void nextTooth() {
        JawBench x = Check.told("judge a 10 1;judge b 10 0;nut n 30 9 1;nut m 29 9 1;suit r b n 0;suit s a m 1;suit t a n 98;law wear 0;");
        Check.due("on the 99th day", 99, x.nextTooth());
        x.put(2, 99);
        Check.due("not by then", -2, x.nextTooth());
        x.put(2, 0);
        Check.due("this day", 1, x.nextTooth());
        x.put(2, 1);
        Check.due("the next one", 2, x.nextTooth());
        x.go(1);
        Check.due("this day now", 1, x.nextTooth());
        x.go(1);
        Check.due("it is lost", -2, x.nextTooth());
        Check.due("of nobody", -2, new JawBench().nextTooth());
    }

    private static void chance() {
        // From 1 on: 1103527590, which by 65536 is 16838: 8 more, 47 in all.
        JawBench x = Check.told("judge a 47 1;nut n 39 20 1;suit s a n 0;law slack 99;");
        int hardAtMost47 = 0;
        long last = 1;
        for (int i = 0; i < 10; i++) {
            last = last * 1103515245L + 12345L & 0x7fffffffL;
            hardAtMost47 += 39 + last / 65536 % 10 <= 47 ? 1 : 0;
        }
        Check.due("ten times, one behind another", hardAtMost47, x.chance(1, 1, 20));
        Check.due("no gain is always there", 10, x.chance(1, 1, 0));
        Check.due("more is never there", 0, x.chance(1, 99, 21));
        Check.due("the greatest seed", 10, x.chance(Integer.MAX_VALUE, 1, 0));
        Check.due("seed -1", -1, x.chance(-1, 1, 0));
        Check.due("n 0", -1, x.chance(0, 0, 0));
        Check.due("n 100", -1, x.chance(0, 100, 0));
        Check.due("gain -1", -1, x.chance(0, 1, -1));
        Check.due("gain 1000", -1, x.chance(0, 1, 1000));
        Check.due("gain 999", 0, x.chance(0, 99, 999));
        // 0, 12345 (by 65536: 0), .. : the first number from the seed 0 on is 0.
        x = Check.told("judge a 30 1;nut n 30 20 1;suit s a n 5;law slack 1;");
        Check.due("not tried in five days", 0, x.chance(0, 5, 20));
        int zeros = 0;
        last = 0;
        for (int i = 0; i < 10; i++) {
            last = last * 1103515245L + 12345L & 0x7fffffffL;
            zeros += last / 65536 % 10 == 0 ? 1 : 0;
        }
        Check.due("there is one at least", 1, zeros > 0 ? 1 : 0);
        Check.due("whole only if none is more", zeros, x.chance(0, 6, 20));
    }

    private static void tried() {
        JawBench x = Check.told("judge a 40 1;judge b 20 0;nut n 30 20 1;nut m 8 10 0;suit s a n 0;suit t b m 0;suit u a n 1;rest 1;");
        // As it goes: 40 at 30 halved (10), b's 9 at 8 whole (10), then the vacation: halved again (10).
        Check.due("as it goes", 30, x.tried(0, 0, 2));
        Check.due("of no days", 0, x.tried(0, 0, 0));
        Check.due("without b", 20, x.tried(2, 1, 2));
        Check.due("without a", 10, x.tried(2, 0, 2));
        // b's whole 19 at 8: halved.
        Check.due("not halved without teeth", 25, x.tried(4, 0, 2));
        // 79 at 30: crumbs; b 39 by 2 at 8: halved; the vacation: halved.
        Check.due("lever 99 now", 15, x.tried(5, 0, 2));
        x.stone(0, true);
        // 40 at 60 is kept, and a tooth is lost; b unworn 10 at 8 is whole.
        Check.due("with a stone", 20, x.tried(0, 0, 2));
        Check.due("no stones", 30, x.tried(3, 0, 2));
        Check.due("what 6", -1, x.tried(6, 0, 2));
        Check.due("what -1", -1, x.tried(-1, 0, 2));
        Check.due("n -1", -1, x.tried(0, 0, -1));
        Check.due("n 100", -1, x.tried(0, 0, 100));
        Check.due("n 99", 20, x.tried(0, 0, 99));
        Check.due("i 1 of 0", -1, x.tried(0, 1, 2));
        Check.due("i -1 of 3", -1, x.tried(3, -1, 2));
        Check.due("judge 2", -1, x.tried(2, 2, 2));
        Check.due("judge -1", -1, x.tried(2, -1, 2));
        // Worn by 1 the second one is whole, unworn it is halved.
        x = Check.told("judge a 50 1;nut n 40 20 1;suit s a n 0;suit t a n 0;");
        Check.due("worn", 30, x.tried(0, 0, 1));
        Check.due("not worn", 20, x.tried(1, 0, 1));
    }

    /** What one call thought of otherwise must not be there in the next one, whichever it is. */
    private static void nothingStaysOtherwise() {
        JawBench x = Check.told("judge a 39 1;judge b 39 0;nut n 30 20 1;nut m 12 20 1;suit s a n 0;suit t b m 0;suit u a m 2;rest 2;lever 51;");
        x.stone(0, true);
        for (int other = 0; other <= 7; other++) {
            int[] asked = new int[16];
            for (int call = 0; call < asked.length; call++) {
                if (other == 6) {
                    x.chance(7, 5, 0);
                } else if (other == 7) {
                    x.levers();
                } else {
                    x.tried(other, 0, 1);
                }
                asked[call] = answer(x, call);
            }
            // a: 39 at 60 loses its tooth; b: 19 at 12 whole, worn to 50, two days on as told: 39 at 12, crumbs.
            int[] due = {19, 10, 1, 10, 0, 1, 0, 2, 20, 20, 31, 0, 20, 1, 20, 51};
            for (int call = 0; call < due.length; call++) {
                Check.due("call " + call + " behind " + other, due[call], asked[call]);
            }
        }
    }

    private static int answer(JawBench x, int call) {
        switch (call) {
            case 0: return x.force(1, 1);
            case 1: return x.slack(1, 1);
            case 2: return x.verdict(1, 1);
            case 3: return x.rest(1, 0);
            case 4: return x.likely(0, 0);
            case 5: return x.likely(0, 1);
            case 6: return x.wholeBy(0);
            case 7: return x.wholeBy(1);
            case 8: return x.ahead(1, 4);
            case 9: return x.order(5);
            case 10: return x.enough(1, 1);
            case 11: return x.spoil(1, 20);
            case 12: return x.deal(1, 4);
            case 13: return x.nextTooth();
            case 14: return x.tried(0, 0, 99);
            default: return x.ahead(2, 5);
        }
    }

    private static void nothingIsChanged() {
        JawBench x = Check.told(TestCourt.FOUR + "rest 2;");
        x.stone(2, true);
        x.ahead(99, 0);
        x.deal(60, 4);
        x.order(5);
        x.enough(0, 0);
        x.spoil(60, 0);
        x.rests(0);
        x.likely(0, 0);
        x.wholeBy(0);
        x.nextTooth();
        x.levers();
        x.chance(3, 99, 5);
        for (int what = 0; what <= 5; what++) {
            x.tried(what, 0, 99);
        }
        int[] due = {2, 2, 4, 0, 0, 50, 0, 0, 0, 0, 0, 0, 0, 0, 0, 1};
        for (int what = 0; what < due.length; what++) {
            Check.due("as it was, count(" + what + ")", due[what], x.count(what));
        }
        Check.due("as it was, the stone", 1, Check.suit(x, 2, 3));
        Check.due("as it was, no other stone", 0, Check.suit(x, 0, 3));
        Check.due("as it was, the judge", 0, Check.suit(x, 0, 0));
        nothingStaysOtherwise();
        Check.due("nothing otherwise", 21, x.tried(0, 0, 2));
        Check.due("and a day as ever", 1, x.go(1));
        Check.due("its gain", 21, x.count(10));
        Check.due("its lever", 48, x.count(5));
    }
}
