/** Promises 18 to 24 at their boundaries: ahead, deal, order, enough, spoil, rests, rest. */
public final class TestEdgesAhead {
    public static void main(String[] args) {
        Edges.run(TestEdgesAhead.class);
    }

    // ---- 18: ahead

    @Says({"AHEAD for n DAYS: how many more are KEPT, WHOLE, HALVED, CRUMBS; GAIN more; LEVER then; TEETH of all then.",
        "what 0 KEPT, 1 WHOLE, 2 HALVED, 3 CRUMBS, 4 GAIN, 5 LEVER, 6 TEETH."})
    static void promise18_ahead_isWhatIsMoreThen() {
        JawBench x = Check.told(Edges.FOUR);
        int[][] due = {{0, 0, 0, 0, 0, 50, 2}, {0, 1, 1, 0, 21, 48, 2}, {1, 1, 1, 1, 21, 47, 2}, {1, 1, 1, 1, 21, 47, 2}};
        int[] n = {0, 1, 2, 99};
        for (int i = 0; i < n.length; i++) {
            int days = n[i];
            Edges.all("ahead " + days, due[i], what -> x.ahead(days, what));
        }
        x.go(1);
        Edges.all("of no days from day 1", new int[] {0, 0, 0, 0, 0, 48, 2}, what -> x.ahead(0, what));
        Edges.all("more from day 1", new int[] {1, 0, 0, 1, 0, 47, 2}, what -> x.ahead(1, what));
        x.go(1);
        Edges.all("more from day 2", new int[] {0, 0, 0, 0, 0, 47, 2}, what -> x.ahead(99, what));
        JawBench teeth = Check.told("judge a 10 3;judge b 10 4;judge c 10 0;nut n 99 9 3;suit s a n 0;suit t b n 4;rest 9;");
        int[] days = {0, 1, 4, 5, 8, 9};
        int[] left = {7, 6, 6, 5, 5, 7};
        for (int i = 0; i < days.length; i++) {
            Check.due("teeth of all in " + days[i], left[i], teeth.ahead(days[i], 6));
        }
    }

    @Says("AHEAD (n 0 .. 99),")
    static void promise18_ahead_isOf0To99Days() {
        JawBench x = Check.told(Edges.FOUR);
        for (int what = 0; what <= 6; what++) {
            int of = what;
            Edges.only("n of what " + what, -1, 0, 99, n -> x.ahead(n, of));
        }
        x.put(1, 98);
        Check.due("day 98 isn't in 98 days", 0, x.ahead(98, 1));
        Check.due("day 98 is in 99 days", 1, x.ahead(99, 1));
        x.put(1, 99);
        Check.due("day 99 isn't in 99 days", 0, x.ahead(99, 1));
        for (int i = 0; i < 100; i++) {
            x.go(99);
        }
        Check.tell(x, "judge a 50 1;nut n 50 9 1;suit s a n 0;");
        x.put(0, 9998);
        for (int i = 0; i < 100; i++) {
            x.go(99);
        }
        Check.due("on day 9900", 9900, x.count(4));
        Check.due("day 9998 isn't in 98 days", 0, x.ahead(98, 4));
        Check.due("day 9998 is in 99 days", 9, x.ahead(99, 4));
        x.put(0, 9999);
        Check.due("day 9999 isn't", 0, x.ahead(99, 4));
    }

    @Says("how many more are KEPT, WHOLE, HALVED, CRUMBS; GAIN more; LEVER then; TEETH of all then.")
    static void promise18_ahead_isOfAllTenAndFour() {
        // Each DAY has a suit, the last on day 9: loads aren't seen, forces come by days: 0, 10, .. 90 at 40.
        String ten = "judge a 1 1;judge b 1 2;judge c 1 3;judge d 1 9;nut n 40 10 1;law force day*10;law wear 1;";
        for (int day = 0; day < 10; day++) {
            ten += Edges.suits(day, day, "d n " + day);
        }
        JawBench x = Check.told(ten);
        Edges.all("all ten days", new int[] {4, 1, 1, 4, 15, 44, 12}, what -> x.ahead(10, what));
        Edges.all("nine of them", new int[] {4, 1, 1, 3, 15, 45, 12}, what -> x.ahead(9, what));
        Edges.all("more than all", new int[] {4, 1, 1, 4, 15, 44, 12}, what -> x.ahead(99, what));
        x.go(5);
        Edges.all("the last five", new int[] {0, 0, 1, 4, 5, 44, 12}, what -> x.ahead(5, what));
    }

    @Says("NONE: no such ones.")
    static void promise18_ahead_isNoneWithoutSuchOnes() {
        JawBench x = Check.told(Edges.FOUR);
        for (int n : new int[] {0, 1, 99}) {
            Edges.only("what in " + n, -1, 0, 6, what -> x.ahead(n, what));
        }
        Check.due("neither", -1, x.ahead(-1, 7));
    }

    // ---- 19: deal

    @Says("DEAL for n DAYS: the first four SUITS that aren't TRIED (by numbers), each before a JUDGE, so that most GAIN comes in these DAYS,")
    static void promise19_deal_isOfTheFirstFourNotTried() {
        // Only b makes one whole; all are before a, but for the sixth.
        String text = "judge a 10 9;judge b 30 9;nut n 30 20 1;suit r a n 0;suit s a n 1;suit t a n 1;suit u a n 1;suit v a n 1;suit w b n 1;law wear 0;";
        JawBench x = Check.told(text);
        Edges.all("the first four, the fifth stays with a, the sixth with b", new int[] {1, 1, 1, 1, 100}, what -> x.deal(2, what));
        Edges.all("of one day", new int[] {1, 0, 0, 0, 20}, what -> x.deal(1, what));
        x.go(1);
        Edges.all("the next four", new int[] {1, 1, 1, 1, 100}, what -> x.deal(1, what));
        Check.due("nothing is given", 0, Check.suit(x, 1, 0));
        x.put(1, 2);
        Edges.all("one is put off", new int[] {0, 1, 1, 1, 80}, what -> x.deal(1, what));
        x.go(1);
        Edges.all("one is left", new int[] {1, -2, -2, -2, 20}, what -> x.deal(1, what));
    }

    @Says("of several the first by SUITS.")
    static void promise19_deal_isTheFirstBySuits() {
        // The second one that a judge tries on a day is kept: it must be the other judge, a first.
        JawBench x = Check.told("judge a 30 9;judge b 30 9;nut n 30 20 1;suit s b n 0;suit t b n 0;law force jaw-load*20;law wear 0;");
        Edges.all("a, then b", new int[] {0, 1, -2, -2, 40}, what -> x.deal(1, what));
        JawBench all = Check.told("judge a 1 9;judge b 1 9;judge c 1 9;judge d 1 9;nut n 99 20 1;suit s d n 0;suit t d n 0;suit u d n 0;suit v d n 0;");
        Edges.all("all alike: the first row", new int[] {0, 0, 0, 0, 0}, what -> all.deal(1, what));
        JawBench last = Check.told("judge a 1 9;judge b 1 9;judge c 1 9;judge d 30 9;nut n 30 20 1;suit s a n 0;suit t a n 0;suit u a n 0;suit v a n 0;law wear 0;");
        Edges.all("the last row of all", new int[] {3, 3, 3, 3, 80}, what -> last.deal(1, what));
        JawBench some = Check.told("judge a 1 9;judge b 30 9;judge c 30 9;nut n 30 20 1;nut m 99 5 1;suit s c m 0;suit t c n 0;suit u c m 0;law wear 0;");
        Edges.all("the least judge of each", new int[] {0, 1, 0, -2, 20}, what -> some.deal(1, what));
    }

    @Says("of several the first by SUITS.")
    static void promise19_deal_knowsNothingOfAnOrderOrADealAhead() {
        JawBench x = Check.told("judge a 1 9;judge b 1 9;judge c 1 9;judge d 30 9;nut n 30 20 1;suit r a n 5;suit s a n 0;suit t a n 0;suit u a n 0;suit v a n 0;suit w a n 0;law wear 0;");
        Edges.all("order", new int[] {1, 2, 3, 4, 5, 0}, x::order);
        Edges.all("deal behind an order", new int[] {0, 3, 3, 3, 60}, what -> x.deal(1, what));
        for (int s = 0; s < 6; s++) {
            x.stone(s, true);
        }
        Edges.all("no gain at all: the first row", new int[] {0, 0, 0, 0, 0}, what -> x.deal(9, what));
        Edges.all("order again", new int[] {1, 2, 3, 4, 5, 0}, x::order);
        x.go(1);
        Edges.all("one is left", new int[] {0, -2, -2, -2, 0}, what -> x.deal(9, what));
        x.stone(0, false);
        Edges.all("by the last judge", new int[] {3, -2, -2, -2, 20}, what -> x.deal(9, what));
        Edges.all("none of this day", new int[] {-2, -2, -2, -2, -2, 0}, x::order);
    }

    @Says("DEAL (n 1 .. 60), what 0 .. 3: the JUDGE of the first SUIT, and so on")
    static void promise19_deal_isOf1To60Days() {
        JawBench x = Check.told("judge a 10 9;judge b 30 9;nut n 30 20 1;suit r a n 0;suit s a n 59;law wear 0;");
        for (int what = 0; what <= 4; what++) {
            int of = what;
            Edges.only("n of what " + what, -1, 1, 60, n -> x.deal(n, of));
        }
        Edges.all("59 days", new int[] {1, 0, -2, -2, 20}, what -> x.deal(59, what));
        Edges.all("60 days", new int[] {1, 1, -2, -2, 40}, what -> x.deal(60, what));
        x.put(1, 60);
        Edges.all("day 60 isn't in 60 days", new int[] {1, 0, -2, -2, 20}, what -> x.deal(60, what));
    }

    @Says("(-2: not so many), 4: GAIN.")
    static void promise19_deal_hasMinusTwoBehindTheLast() {
        for (int suits = 0; suits <= 10; suits++) {
            JawBench x = Check.told("judge a 30 9;nut n 30 20 1;law wear 0;" + Edges.suits(0, suits - 1, "a n 0"));
            for (int what = 0; what < 4; what++) {
                Check.due("what " + what + " of " + suits, what < suits ? 0 : -2, x.deal(1, what));
            }
            Check.due("gain of " + suits, 20 * suits, x.deal(1, 4));
        }
    }

    @Says("NONE: no such ones, no JUDGES.")
    static void promise19_deal_isNoneWithoutJudges() {
        JawBench x = Check.told(Edges.FOUR);
        Edges.only("what", -1, 0, 4, what -> x.deal(1, what));
        JawBench none = Check.told("nut n 1 1 1;");
        Edges.all("no judges", new int[] {-1, -1, -1, -1, -1, -1}, what -> none.deal(1, what));
        JawBench one = Check.told("judge a 1 1;");
        Edges.all("a judge, no suits", new int[] {-2, -2, -2, -2, 0, -1}, what -> one.deal(60, what));
    }

    // ---- 20: order

    @Says("ORDER: the SUITS of this DAY that aren't TRIED, the first five by numbers, TRIED now in a row instead (the others of this DAY behind them by numbers):")
    static void promise20_order_isOfTheDaysFirstFive() {
        // m is whole only as the first one of its judge's day; n only as the second one.
        String text = "judge a 1 9;nut n 10 1 1;nut m 0 50 1;suit r a m 1;suit s a n 0;suit t a n 0;suit u a n 0;suit v a n 0;";
        String laws = "law force load*10;law slack 1;law wear 0;";
        JawBench fifth = Check.told(text + "suit w a m 0;" + laws);
        Edges.all("the fifth of this day comes first", new int[] {5, 1, 2, 3, 4, 51}, fifth::order);
        JawBench sixth = Check.told(text + "suit w a n 0;suit y a m 0;" + laws);
        Edges.all("the sixth of this day stays behind", new int[] {1, 2, 3, 4, 5, 1}, sixth::order);
        sixth.put(1, 1);
        Edges.all("the sixth is the fifth then", new int[] {6, 2, 3, 4, 5, 51}, sixth::order);
        // Behind the five, the sixth and the seventh by numbers: loads 5 and 6.
        JawBench behind = Check.told("judge a 1 9;nut n 99 1 1;nut m 50 7 1;nut k 60 9 1;suit r a n 0;suit s a n 0;suit t a n 0;suit u a n 0;suit v a n 0;"
                + "suit w a m 0;suit y a k 0;" + laws);
        Edges.all("by numbers behind", new int[] {0, 1, 2, 3, 4, 16}, behind::order);
        JawBench day = Check.told(text + laws);
        day.go(1);
        Edges.all("of the next day", new int[] {0, -2, -2, -2, -2, 50}, day::order);
    }

    @Says("the row by which GAIN of this DAY is most, of several the first by numbers.")
    static void promise20_order_isTheFirstOfMostGain() {
        JawBench alike = Check.told("judge a 1 9;nut n 99 1 1;suit r a n 0;suit s a n 0;suit t a n 0;suit u a n 0;suit v a n 0;");
        Edges.all("all alike: by numbers", new int[] {0, 1, 2, 3, 4, 0}, alike::order);
        JawBench last = Check.told("judge a 1 9;nut n 80 1 1;nut m 60 1 1;nut k 40 1 1;nut e 20 1 1;nut f 0 1 1;"
                + "suit s a n 0;suit t a m 0;suit u a k 0;suit v a e 0;suit w a f 0;law force load*20;law wear 0;");
        Edges.all("each has its place: the last row", new int[] {4, 3, 2, 1, 0, 5}, last::order);
        // The second one gains, whichever it is: 0 1 2 of several.
        JawBench second = Check.told("judge a 1 9;nut n 10 7 1;suit s a n 0;suit t a n 0;suit u a n 0;law force load*10;law slack 1;law wear 0;");
        Edges.all("of several", new int[] {0, 1, 2, -2, -2, 7}, second::order);
        // Only the third must be second: 0 2 1 comes ahead of 1 2 0.
        JawBench third = Check.told("judge a 1 9;nut n 99 7 1;nut m 10 8 1;suit s a n 0;suit t a n 0;suit u a m 0;law force load*10;law slack 1;law wear 0;");
        Edges.all("the third is second", new int[] {0, 2, 1, -2, -2, 8}, third::order);
        JawBench worn = Check.told(Edges.FOUR);
        Edges.all("worn ahead of it, 40 at 30 is whole", new int[] {1, 0, -2, -2, -2, 32}, worn::order);
        worn.go(1);
        Edges.all("gain of this day alone", new int[] {2, 3, -2, -2, -2, 0}, worn::order);
        Check.due("no tooth is lost by it", 2, worn.judge(0, 1));
    }

    @Says("ORDER, what 0 .. 4: the SUIT that is first, and so on (-2: not so many), 5: GAIN of this DAY.")
    static void promise20_order_hasMinusTwoBehindTheLast() {
        for (int suits = 0; suits <= 10; suits++) {
            JawBench x = Check.told("judge a 30 9;nut n 30 20 1;law wear 0;" + Edges.suits(0, suits - 1, "a n 0"));
            for (int what = 0; what < 5; what++) {
                Check.due("what " + what + " of " + suits, what < suits ? what : -2, x.order(what));
            }
            Check.due("gain of " + suits, 20 * suits, x.order(5));
        }
    }

    @Says("NONE for another what.")
    static void promise20_order_isNoneForAnotherWhat() {
        JawBench x = Check.told(Edges.FOUR);
        Edges.only("what", -1, 0, 5, x::order);
        Edges.only("what of none", -1, 0, 5, new JawBench()::order);
    }

    // ---- 21: enough

    @Says("ENOUGH of a JUDGE and a NUT: the least LEVER 1 .. 99 in place of the one there is by which the VERDICT is WHOLE (without a STONE).")
    static void promise21_enough_isTheLeastLever() {
        int[][] jawHardDue = {{50, 0, 1}, {50, 1, 1}, {50, 2, 2}, {50, 50, 50}, {50, 98, 98}, {50, 99, 99}, {49, 97, 99}, {49, 98, -2},
            {99, 0, 1}, {99, 99, 50}, {1, 1, 50}, {1, 2, -2}, {1, 0, 1}};
        for (int[] row : jawHardDue) {
            for (int lever : new int[] {1, 50, 99}) {
                JawBench x = Check.told("judge a " + row[0] + " 1;nut n " + row[1] + " 9 1;suit s a n 0;lever " + lever + ";");
                Check.due("jaw " + row[0] + " at " + row[1], row[2], x.enough(0, 0));
                x.stone(0, true);
                Check.due("without a stone", row[2], x.enough(0, 0));
                Check.due("the lever stays", lever, x.count(5));
            }
        }
        JawBench halved = Check.told("judge a 50 0;judge b 50 1;nut n 49 9 1;nut m 50 1 1;");
        Check.due("halved without teeth", 98, halved.enough(0, 0));
        Check.due("with one", 49, halved.enough(1, 0));
        Check.due("98 by 2 isn't 50", -2, halved.enough(0, 1));
        JawBench lever = Check.told("judge a 50 1;nut n 9 9 1;law force (lever=77 or lever=80)*9;law slack 1;");
        Check.due("not the nearest, the least", 77, lever.enough(0, 0));
    }

    @Says("ENOUGH; -2: by none;")
    static void promise21_enough_isMinusTwoByNone() {
        Check.due("too hard", -2, Check.told("judge a 1 1;nut n 99 9 1;").enough(0, 0));
        Check.due("too much by each", -2, Check.told("judge a 1 1;nut n 0 9 1;law force 999;").enough(0, 0));
        // 20, 40, ..: 30 is kept by the first, halved by the second with a slack of 10, whole with 11.
        String text = "judge a 1 1;nut n 30 9 1;law force lever*20;law slack ";
        Check.due("leapt over", -2, Check.told(text + "10;").enough(0, 0));
        Check.due("just not", 2, Check.told(text + "11;").enough(0, 0));
        Check.due("lever 100 would do", -2, Check.told("judge a 1 1;nut n 30 9 1;law force (lever>99)*30;").enough(0, 0));
        Check.due("lever 0 would do", -2, Check.told("judge a 1 1;nut n 30 9 1;law force (lever<1)*30;").enough(0, 0));
    }

    @Says("NONE: no such ones.")
    static void promise21_enough_isNoneWithoutSuchOnes() {
        JawBench x = Check.told("judge a 50 1;judge b 50 1;nut n 9 9 1;nut m 9 9 1;nut k 9 9 1;");
        Edges.only("judge", -1, 0, 1, judge -> x.enough(judge, 0));
        Edges.only("nut", -1, 0, 2, nut -> x.enough(0, nut));
        Check.due("no judges", -1, Check.told("nut n 1 1 1;").enough(0, 0));
        Check.due("no nuts", -1, Check.told("judge n 1 1;").enough(0, 0));
    }

    // ---- 22: spoil

    @Says("SPOIL for n DAYS and a bound: the fewest SUITS (bits, of several the least) of those that aren't TRIED and have no STONE, to have one now,"
            + " so that GAIN more in these DAYS is the bound at most.")
    static void promise22_spoil_isTheFewestThenTheLeast() {
        // 10, 10, 25 and 30 on days 0, 0, 0, 1, each whole without a stone, kept with one.
        JawBench x = Check.told("judge a 30 9;nut n 30 10 1;nut m 30 25 1;nut k 30 30 1;suit s a n 0;suit t a n 0;suit u a m 0;suit v a k 1;law wear 0;law slack 5;");
        int[][] boundDue = {{45, 0}, {44, 1}, {35, 1}, {34, 4}, {25, 4}, {20, 4}, {19, 5}, {10, 5}, {9, 7}, {0, 7}};
        for (int[] row : boundDue) {
            Check.due("one day, bound " + row[0], row[1], x.spoil(1, row[0]));
        }
        int[][] twoDays = {{75, 0}, {74, 1}, {65, 1}, {64, 4}, {50, 4}, {49, 8}, {45, 8}, {44, 5}, {40, 5}, {39, 9}, {20, 12}, {19, 13}, {10, 13}, {9, 15}};
        for (int[] row : twoDays) {
            Check.due("two days, bound " + row[0], row[1], x.spoil(2, row[0]));
        }
        x.stone(2, true);
        Check.due("one that has a stone counts no more", 3, x.spoil(1, 0));
        x.go(1);
        Check.due("tried ones don't", 8, x.spoil(1, 29));
        Check.due("gain more alone", 0, x.spoil(1, 30));
        Check.due("no stone is put in", 0, Check.suit(x, 3, 3));
        JawBench all = Check.told("judge a 30 9;nut n 30 99 1;law wear 0;law slack 20;law force 30;" + Edges.suits(0, 9, "a n 0"));
        Check.due("all ten", 1023, all.spoil(1, 0));
        Check.due("nine of ten, the least", 511, all.spoil(1, 99));
        Check.due("one of ten", 1, all.spoil(1, 989));
    }

    @Says("SPOIL (n 1 .. 60, a bound 0 .. 999; bits; 0: it is so);")
    static void promise22_spoil_isOf1To60DaysAnd0To999() {
        JawBench x = Check.told("judge a 30 9;nut n 30 20 1;suit s a n 0;suit t a n 59;law wear 0;law slack 5;");
        Edges.only("n", -1, 1, 60, n -> x.spoil(n, 0));
        Edges.only("bound", -1, 0, 999, bound -> x.spoil(1, bound));
        Check.due("59 days", 1, x.spoil(59, 0));
        Check.due("60 days", 3, x.spoil(60, 0));
        Check.due("it is so at 40", 0, x.spoil(60, 40));
        Check.due("not at 39", 1, x.spoil(60, 39));
        Check.due("no suits", 0, new JawBench().spoil(60, 0));
        x.put(1, 60);
        Check.due("day 60 isn't in 60 days", 1, x.spoil(60, 0));
    }

    @Says("-2: by none; NONE: no such ones.")
    static void promise22_spoil_isMinusTwoByNone() {
        JawBench always = Check.told("judge a 30 9;nut n 30 20 1;suit s a n 0;law force hard;");
        Check.due("stones don't help", -2, always.spoil(1, 19));
        Check.due("it is so", 0, always.spoil(1, 20));
        // Crumbs, whole with a stone: 90 at 40 is 50 more, at 70 it is 20 more.
        JawBench worse = Check.told("judge a 90 9;nut n 40 20 1;nut m 90 9 1;suit s a n 0;suit t a m 0;law slack 21;law wear 0;");
        Check.due("a stone in the first would help it", 2, worse.spoil(1, 0));
        worse.stone(0, true);
        Check.due("with it in, no other one helps", -2, worse.spoil(1, 19));
        Check.due("but for its own 20", 2, worse.spoil(1, 20));
        Check.due("neither", -1, worse.spoil(0, -1));
    }

    // ---- 23, 24: rests, rest

    @Says({"SETTLE of a SUIT: two parties settle (0) or don't (1): both settle: each has WORTH by 2, cut; else it is TRIED (as it would be now):"
            + " WHOLE: the first one has WORTH, HALVED: each WORTH by 2, cut; who doesn't settle pays 5.",
        "A REST: neither would have more otherwise."})
    static void promise23_rests_turnAt9And10() {
        // Whole: settled is a rest up to 10, not settled by the first one from 9 on.
        for (int worth = 0; worth <= 99; worth++) {
            String nut = "nut n 30 " + worth + " 1;suit s a n 0;";
            JawBench whole = Check.told("judge a 30 1;" + nut);
            rests("whole, worth " + worth, whole, worth < 9 ? new int[] {0} : worth <= 10 ? new int[] {0, 10} : new int[] {10});
            rests("halved, worth " + worth, Check.told("judge a 40 1;" + nut), new int[] {0});
            rests("crumbs, worth " + worth, Check.told("judge a 50 1;" + nut), new int[] {0});
            rests("kept, worth " + worth, Check.told("judge a 29 1;" + nut), new int[] {0});
        }
        JawBench stone = Check.told("judge a 60 1;nut n 30 50 1;suit s a n 7;");
        rests("crumbs without a stone", stone, new int[] {0});
        stone.stone(0, true);
        rests("whole with its stone, as it would be now", stone, new int[] {10});
    }

    @Says("How many RESTS SETTLE has; NONE: no such SUIT, TRIED.")
    static void promise23_rests_isNoneWithoutSuchASuit() {
        JawBench x = Check.told(Edges.FOUR);
        Edges.only("suit", -1, 0, 3, x::rests);
        x.go(1);
        Edges.all("tried", new int[] {-1, -1, 1, 1}, x::rests);
        x.go(1);
        Edges.all("all tried", new int[] {-1, -1, -1, -1}, x::rests);
        Check.due("no suits", -1, new JawBench().rests(0));
    }

    @Says({"RESTS: by the first one's, then the second one's.", "The k-th: ten times the first one's and the second one's; -2: there are no so many;"})
    static void promise24_rest_isTheKth() {
        JawBench x = Check.told("judge a 30 1;nut n 30 10 1;suit s a n 0;");
        int[] k = {0, 1, 2, 3, Integer.MAX_VALUE};
        int[] due = {0, 10, -2, -2, -2};
        for (int i = 0; i < k.length; i++) {
            Check.due("two, rest " + k[i], due[i], x.rest(0, k[i]));
        }
        JawBench one = Check.told("judge a 30 1;nut n 30 11 1;suit s a n 0;");
        Check.due("one, rest 0", 10, one.rest(0, 0));
        Check.due("one, rest 1", -2, one.rest(0, 1));
    }

    @Says("NONE likewise, k is below 0.")
    static void promise24_rest_isNoneBelow0() {
        JawBench x = Check.told(Edges.FOUR);
        Edges.same("k", k -> x.rest(0, k), -1, Integer.MIN_VALUE, -2, -1);
        Edges.only("suit", -1, 0, 3, s -> x.rest(s, 0));
        Check.due("no such suit, too many", -1, x.rest(4, 9));
        x.go(1);
        Edges.all("tried", new int[] {-1, -1, 0, 0}, s -> x.rest(s, 0));
        Check.due("tried, too many", -1, x.rest(0, 9));
    }

    private static void rests(String what, JawBench x, int[] due) {
        Check.due("rests, " + what, due.length, x.rests(0));
        for (int k = 0; k < due.length; k++) {
            Check.due("rest " + k + ", " + what, due[k], x.rest(0, k));
        }
        Check.due("no more, " + what, -2, x.rest(0, due.length));
    }
}
