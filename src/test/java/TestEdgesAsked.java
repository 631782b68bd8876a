import java.math.BigInteger;

/** Promises 25 to 30, 35 and 36 at their boundaries: twins, likely, wholeBy, docket, crown, nextTooth, chance, tried. */
public final class TestEdgesAsked {
    public static void main(String[] args) {
        Edges.run(TestEdgesAsked.class);
    }

    // ---- 25: twins

    @Says({"TWINS: pairs of SUITS that are TRIED about the same NUT with unlike VERDICTS.", "TWINS."})
    static void promise25_twins_arePairsOfTriedOnes() {
        Check.due("no suits", 0, new JawBench().twins());
        JawBench x = Check.told("judge a 30 1;judge b 10 1;nut n 30 9 1;nut m 30 9 1;suit s a n 0;suit t b n 1;suit u a m 2;suit v b m 3;suit w a n 4;law wear 0;");
        // One; unlike; another nut; unlike on both nuts; a third of n like the first.
        int[] due = {0, 0, 1, 1, 2, 3, 3};
        for (int day = 0; day < due.length; day++) {
            Check.due("on day " + day, due[day], x.twins());
            x.go(1);
        }
        JawBench many = Check.told("judge a 1 9;nut n 10 9 1;law force load*5;law wear 0;" + Edges.suits(0, 9, "a n 0"));
        many.go(1);
        // Two kept, two whole, two halved, four crumbs: 45 pairs, 1 + 1 + 1 + 6 of them alike.
        Check.due("ten of one nut", 36, many.twins());
    }

    // ---- 26: likely

    @Says({"LIKELY for a SUIT: of HARDNESS 0 .. 9 more, alike likely, the part by which it would be WHOLE now, as a fraction.",
        "LIKELY in least terms, what 0: the number above, 1: the one below."})
    static void promise26_likely_isAFractionInLeastTerms() {
        int[] above = {0, 1, 1, 3, 2, 1, 3, 7, 4, 9, 1};
        int[] below = {1, 10, 5, 10, 5, 2, 5, 10, 5, 10, 1};
        // 40 at 21 is never whole, at 22 with 9 more alone, .. at 31 always, .. at 40 with 0 more alone, at 41 never.
        for (int hard = 20; hard <= 42; hard++) {
            int parts = hard <= 31 ? Math.max(0, hard - 21) : Math.max(0, 41 - hard);
            JawBench x = Check.told("judge a 40 1;nut n " + hard + " 9 1;suit s a n 7;");
            Check.due("above at " + hard, above[parts], x.likely(0, 0));
            Check.due("below at " + hard, below[parts], x.likely(0, 1));
        }
        JawBench stone = Check.told("judge a 65 1;nut n 30 9 1;suit s a n 0;");
        Check.due("never without its stone", 0, stone.likely(0, 0));
        stone.stone(0, true);
        Check.due("6 of 10 with it", 3, stone.likely(0, 0));
        Check.due("6 of 10 with it", 5, stone.likely(0, 1));
        JawBench law = Check.told("judge a 40 1;nut n 30 9 1;suit s a n 0;law force (hard>=30 and hard<=39)*hard;");
        Check.due("0 to 9 more, and none else", 1, law.likely(0, 1));
        law = Check.told("judge a 40 1;nut n 30 9 1;suit s a n 0;law force (hard<30 or hard>39)*hard;");
        Check.due("not 0 to 9 more", 0, law.likely(0, 0));
    }

    @Says("NONE: no such ones, TRIED.")
    static void promise26_likely_isNoneWithoutSuchOnes() {
        JawBench x = Check.told(Edges.FOUR);
        for (int k = 0; k < 2; k++) {
            int fixed = k;
            Edges.only("suit of what " + k, -1, 0, 3, s -> x.likely(s, fixed));
        }
        Edges.only("what", -1, 0, 1, what -> x.likely(0, what));
        x.go(1);
        Edges.all("tried", new int[] {-1, -1, 0, 0}, s -> x.likely(s, 0));
        Check.due("no suits", -1, new JawBench().likely(0, 0));
    }

    // ---- 27: wholeBy

    @Says("JUDGES (bits) by whom a SUIT (with its STONE) would be WHOLE, if it were TRIED now;")
    static void promise27_wholeBy_hasABitForEachJudge() {
        String judges = "judge a 29 1;judge b 30 1;judge c 39 1;judge d 40 1;";
        JawBench x = Check.told(judges + "nut n 30 9 1;suit s a n 9;");
        Check.due("from 30 to 39", 6, x.wholeBy(0));
        x.give(0, 3);
        Check.due("whomever it is before", 6, x.wholeBy(0));
        x.stone(0, true);
        Check.due("none at 60", 0, x.wholeBy(0));
        x.oil(35);
        // 85: 49, 51, 66, 68.
        Check.due("the last two at 60", 12, x.wholeBy(0));
        Check.due("all", 15, Check.told("judge a 39 1;judge b 30 1;judge c 39 1;judge d 35 1;nut n 30 9 1;suit s a n 9;").wholeBy(0));
        Check.due("the first", 1, Check.told("judge a 39 1;judge b 30 0;nut n 30 9 1;suit s b n 9;").wholeBy(0));
        Check.due("the last", 8, Check.told(judges + "nut n 40 9 1;suit s a n 9;").wholeBy(0));
        Check.due("halved without teeth", 2, Check.told("judge a 30 0;judge b 60 0;nut n 30 9 1;suit s a n 9;").wholeBy(0));
    }

    @Says("NONE: no such SUIT, TRIED.")
    static void promise27_wholeBy_isNoneWithoutSuchASuit() {
        JawBench x = Check.told(Edges.FOUR);
        Edges.only("suit", -1, 0, 3, x::wholeBy);
        x.go(1);
        Check.due("tried", -1, x.wholeBy(0));
        Check.due("tried", -1, x.wholeBy(1));
        Check.due("not tried, 38 and 9 at 30", 1, x.wholeBy(2));
        Check.due("no suits", -1, new JawBench().wholeBy(0));
    }

    // ---- 28: docket

    @Says("SUITS (bits) that are put to a DAY 0 .. 9999 and aren't TRIED;")
    static void promise28_docket_isOfADay() {
        JawBench x = Check.told(Edges.FOUR);
        Edges.all("days", new int[] {3, 12, 0, 0}, x::docket);
        x.put(0, 9999);
        x.put(3, 9998);
        Check.due("day 0", 2, x.docket(0));
        Check.due("day 1", 4, x.docket(1));
        Check.due("day 9998", 8, x.docket(9998));
        Check.due("day 9999", 1, x.docket(9999));
        x.go(1);
        Edges.all("tried ones aren't there", new int[] {0, 4, 0}, x::docket);
        JawBench full = Check.told("judge a 1 9;nut n 10 9 1;" + Edges.suits(0, 9, "a n 99"));
        Check.due("all ten", 1023, full.docket(99));
        Check.due("none of them", 0, full.docket(98));
    }

    @Says("NONE: no such DAY.")
    static void promise28_docket_isNoneWithoutSuchADay() {
        JawBench x = Check.told(Edges.FOUR);
        Edges.only("day", -1, 0, 9999, x::docket);
        x.go(5);
        Edges.only("day from 5 on", -1, 0, 9999, x::docket);
    }

    // ---- 29: crown

    @Says({"CROWN: the JUDGE with most WHOLE ones so far, the first of several.", "CROWN;"})
    static void promise29_crown_isTheFirstOfSeveral() {
        JawBench x = Check.told("judge a 99 1;judge b 30 1;judge c 30 1;nut n 30 9 1;suit s c n 0;suit t a n 0;suit u b n 1;suit v b n 2;suit w a n 2;suit y a n 2;law wear 0;");
        // None yet; c; b and c; b.
        int[] due = {0, 2, 1, 1};
        for (int day = 0; day < due.length; day++) {
            Check.due("on day " + day, due[day], x.crown());
            x.go(1);
        }
        JawBench last = Check.told("judge a 1 1;judge b 1 1;judge c 1 1;judge d 30 1;nut n 30 9 1;suit s d n 0;suit t a n 0;");
        last.go(1);
        Check.due("the last one", 3, last.crown());
        JawBench full = Check.told("judge a 30 1;judge b 30 1;nut n 30 9 1;law wear 0;" + Edges.suits(0, 4, "a n 0") + Edges.suits(5, 9, "b n 0"));
        full.put(0, 1);
        full.go(1);
        Check.due("four and five", 1, full.crown());
        full.go(1);
        Check.due("five and five", 0, full.crown());
    }

    @Says("NONE: no JUDGES.")
    static void promise29_crown_isNoneWithoutJudges() {
        Check.due("new", -1, new JawBench().crown());
        Check.due("nuts alone", -1, Check.told("nut n 1 1 1;").crown());
        Check.due("one judge", 0, Check.told("judge n 1 1;").crown());
    }

    // ---- 30: nextTooth

    @Says({"NEXT TOOTH: in how many DAYS, 99 at most (1: this one), first a TOOTH is lost.", "NEXT TOOTH; -2: not by then."})
    static void promise30_nextTooth_isFrom1To99() {
        JawBench x = Check.told("judge a 10 1;nut n 30 9 1;nut m 29 9 1;suit s a m 0;suit t a n 98;law wear 0;");
        int[] days = {98, 99, 97, 0, 1, 2};
        int[] due = {99, -2, 98, 1, 2, 3};
        for (int i = 0; i < days.length; i++) {
            x.put(1, days[i]);
            Check.due("on day " + days[i], due[i], x.nextTooth());
        }
        x.put(1, 99);
        x.go(1);
        Check.due("from day 1", 99, x.nextTooth());
        x.go(98);
        Check.due("this day", 1, x.nextTooth());
        Check.due("none is lost by asking", 1, x.judge(0, 1));
        x.go(1);
        Check.due("it is lost", 0, x.judge(0, 1));
        Check.due("no more", -2, x.nextTooth());
        Check.due("of nobody", -2, new JawBench().nextTooth());
        Check.due("none to lose", -2, Check.told("judge a 1 0;nut n 99 9 1;suit s a n 0;").nextTooth());
        Check.due("a new one by a vacation", 3, thirdDay().nextTooth());
    }

    private static JawBench thirdDay() {
        JawBench x = Check.told("judge a 10 1;nut n 99 9 1;suit s a n 0;suit t a n 1;suit u a n 2;suit v a n 3;rest 3;");
        x.go(1);
        Check.due("lost on day 0", 1, x.count(12));
        return x;
    }

    // ---- 35: chance

    @Says({"DAYS by chance: HARDNESS of each SUIT that is TRIED is more by a number modulo 10, one each.",
        "Numbers are the last one (at first the seed) times 1103515245 and 12345, without what is above 31 bits, by 65536."})
    static void promise35_chance_drawsNumbersFromTheSeed() {
        // From 1 on: 16838 5758 10113 17515 31051 5627 23010 7419 16212 4086.
        int[] atMost = {0, 1, 2, 3, 4, 4, 5, 6, 7, 9, 10, 10};
        for (int more = -1; more <= 10; more++) {
            JawBench x = Check.told("judge a 60 1;nut n " + (60 - more) + " 20 1;suit s a n 0;law slack 99;");
            Check.due("harder by " + more + " at most", atMost[more + 1], x.chance(1, 1, 20));
        }
        for (int seed : new int[] {0, 1, 2, 12345, 99999, 2147483646, 2147483647}) {
            int[] due = new int[10];
            BigInteger last = BigInteger.valueOf(seed);
            for (int i = 0; i < 10; i++) {
                last = last.multiply(BigInteger.valueOf(1103515245)).add(BigInteger.valueOf(12345)).mod(BigInteger.TWO.pow(31));
                due[last.divide(BigInteger.valueOf(65536)).mod(BigInteger.TEN).intValue()]++;
            }
            for (int more = 0; more < 10; more++) {
                JawBench x = Check.told("judge a 60 1;nut n " + (60 - more) + " 20 1;suit s a n 0;law slack 1;law force 60*(hard=60);");
                Check.due("harder by " + more + " from " + seed, due[more], x.chance(seed, 1, 20));
            }
        }
    }

    @Says("In how many of ten times drawn (numbers from a seed 0 .. 2147483647 on, one behind another;")
    static void promise35_chance_drawsOneBehindAnother() {
        // From 1 on, modulo 10, two a time: 88 35 17 09 26 97 40 53 93 76.
        String text = "judge a 60 9;judge b 60 9;nut n 55 20 1;nut m 55 0 1;law slack 99;law wear 0;law force 60;";
        Check.due("the first of two: 3 1 0 2 4 5", 6, Check.told(text + "suit s a n 0;suit t b m 0;").chance(1, 1, 20));
        Check.due("the second of two: 5 0 3 3", 4, Check.told(text + "suit s a m 0;suit t b n 0;").chance(1, 1, 20));
        Check.due("by days, then by numbers", 4, Check.told(text + "suit t b n 1;suit s a m 0;").chance(1, 2, 20));
        Check.due("one that isn't tried draws none: 3 5 1 0 2", 5, Check.told(text + "suit s a m 1;suit t b n 0;").chance(1, 1, 20));
        JawBench x = Check.told(text + "suit s a n 0;suit t b n 0;");
        Check.due("both whole: 35 40 53", 3, x.chance(1, 1, 40));
        Check.due("one at least", 7, x.chance(1, 1, 20));
        x.stone(0, true);
        Check.due("a stone more", 4, x.chance(1, 1, 20));
        Check.due("anew each call", 4, x.chance(1, 1, 20));
        Check.due("the text's seed is another one's", 10, Check.told("seed 5;judge a 60 9;nut n 51 20 1;suit s a n 0;law slack 99;").chance(1, 1, 20));
    }

    @Says("n 1 .. 99 DAYS from now) GAIN is so much 0 .. 999 more at least;")
    static void promise35_chance_isOfSoMuchGainAtLeast() {
        JawBench x = Check.told("judge a 60 1;nut n 50 20 1;nut m 99 99 1;suit r a n 0;suit s a n 98;law slack 99;law wear 0;");
        Check.due("of no gain", 10, x.chance(1, 1, 0));
        Check.due("19 of 20", 10, x.chance(1, 98, 19));
        Check.due("20 of 20", 10, x.chance(1, 98, 20));
        Check.due("21 of 20", 0, x.chance(1, 98, 21));
        Check.due("day 98 in 99 days", 10, x.chance(1, 99, 40));
        Check.due("41 of 40", 0, x.chance(1, 99, 41));
        x.go(1);
        Check.due("gain more alone", 0, x.chance(1, 97, 1));
        Check.due("gain more alone", 10, x.chance(1, 98, 20));
        Check.due("nothing is tried by it", -1, Check.suit(x, 1, 4));
        Check.due("no suits", 10, new JawBench().chance(0, 1, 0));
        Check.due("no gain", 0, new JawBench().chance(0, 1, 1));
    }

    @Says("NONE: no such ones.")
    static void promise35_chance_isNoneWithoutSuchOnes() {
        JawBench x = Check.told(Edges.FOUR);
        Edges.same("seed", seed -> x.chance(seed, 1, 0), -1, Integer.MIN_VALUE, -2, -1);
        Edges.same("seed", seed -> x.chance(seed, 1, 0), 10, 0, 1, Integer.MAX_VALUE);
        Edges.only("n", -1, 1, 99, n -> x.chance(1, n, 0));
        Edges.only("gain", -1, 0, 999, gain -> x.chance(1, 1, gain));
    }

    // ---- 36: tried

    @Says("TRIED otherwise for n DAYS: GAIN more: 0 as it goes, 1 the LEVER isn't worn,")
    static void promise36_tried_withoutWear() {
        // 50 at 40 is halved, 49 at 40 whole: worn by the first, the second gains all.
        JawBench x = Check.told("judge a 50 1;nut n 40 20 1;suit s a n 0;suit t a n 0;suit u a n 1;suit v a n 98;lever 50;");
        int[] n = {0, 1, 2, 98, 99};
        int[] goes = {0, 30, 50, 50, 70};
        int[] unworn = {0, 20, 30, 30, 40};
        for (int i = 0; i < n.length; i++) {
            Check.due("as it goes " + n[i], goes[i], x.tried(0, 0, n[i]));
            Check.due("not worn " + n[i], unworn[i], x.tried(1, 0, n[i]));
        }
        x.go(1);
        Check.due("more alone", 20, x.tried(0, 0, 1));
        Check.due("the lever that there is: 48", 20, x.tried(1, 0, 1));
    }

    @Says("2 SUITS before JUDGE i aren't TRIED,")
    static void promise36_tried_withoutAJudge() {
        JawBench x = Check.told("judge a 50 1;judge b 50 1;judge c 9 1;nut n 40 20 1;suit s a n 0;suit t b n 0;");
        Check.due("as it goes", 30, x.tried(0, 0, 1));
        Check.due("without a, nothing is worn for b", 10, x.tried(2, 0, 1));
        Check.due("without b", 10, x.tried(2, 1, 1));
        Check.due("without one who tries none", 30, x.tried(2, 2, 1));
        Check.due("of no days", 0, x.tried(2, 2, 0));
        x.give(0, 1);
        Check.due("before b now", 0, x.tried(2, 1, 99));
        Check.due("none before a", 30, x.tried(2, 0, 99));
    }

    @Says("3 no STONES, 4 FORCE isn't halved without TEETH, 5 LEVER is 99 now.")
    static void promise36_tried_withoutStonesHalvingOrWithALever() {
        JawBench x = Check.told("judge a 40 0;nut n 20 20 1;nut m 40 31 1;suit s a n 0;suit t a m 1;suit u a m 5;rest 3;law wear 0;");
        // 20 at 20 whole, 20 at 40 kept twice.
        Check.due("as it goes", 20, x.tried(0, 0, 9));
        // 40 at 20 crumbs, 40 at 40 whole twice.
        Check.due("not halved", 62, x.tried(4, 0, 9));
        // 79 by 2 is 39: at 20 halved, at 40 kept, behind the vacation 20.
        Check.due("lever 99", 10, x.tried(5, 0, 9));
        x.stone(0, true);
        x.stone(1, true);
        Check.due("with stones", 0, x.tried(0, 0, 9));
        Check.due("no stones", 20, x.tried(3, 0, 9));
        Check.due("not halved, but with stones: the last one alone", 31, x.tried(4, 0, 9));
        Check.due("nothing is changed", 50, x.count(5));
        Check.due("the stone is in", 1, Check.suit(x, 0, 3));
        JawBench lever = Check.told("judge a 50 1;nut n 95 20 1;suit s a n 0;suit t a n 1;rest 1;");
        Check.due("99 now, as told behind the vacation", 20, lever.tried(5, 0, 9));
        JawBench lost = Check.told("judge a 40 1;nut n 60 9 1;nut m 40 31 1;suit s a n 0;suit t a m 0;");
        Check.due("a tooth lost on the way", 0, lost.tried(0, 0, 1));
        Check.due("doesn't halve", 31, lost.tried(4, 0, 1));
    }

    @Says("TRIED otherwise for n DAYS: GAIN more:")
    static void promise36_tried_leavesNothingOtherwise() {
        // a: 39 at 60 loses its tooth; b: 19 at 12 is whole; worn to 50, as told two days on.
        JawBench x = Check.told("judge a 39 1;judge b 39 0;nut n 30 20 1;nut m 12 20 1;suit s a n 0;suit t b m 0;suit u a m 2;rest 2;lever 51;");
        x.stone(0, true);
        for (int other = 0; other <= 7; other++) {
            for (int call = 0; call < 8; call++) {
                int ahead = other <= 5 ? x.tried(other, 0, 9) : other == 6 ? x.chance(7, 5, 0) : x.levers();
                Check.due("asked " + other, true, ahead >= 0);
                switch (call) {
                    case 0 -> Check.due("force behind " + other, 19, x.force(1, 1));
                    case 1 -> Check.due("rest behind " + other, 10, x.rest(1, 0));
                    case 2 -> Check.due("likely behind " + other, 0, x.likely(0, 0));
                    case 3 -> Check.due("wholeBy behind " + other, 2, x.wholeBy(1));
                    case 4 -> Check.due("wholeBy, stone, behind " + other, 0, x.wholeBy(0));
                    case 5 -> Check.due("ahead behind " + other, 20, x.ahead(2, 4));
                    case 6 -> Check.due("order behind " + other, 20, x.order(5));
                    default -> Check.due("lever behind " + other, 51, x.ahead(2, 5));
                }
            }
            Check.due("likely, b at m: 19 at 12, behind " + other, 4, x.likely(1, 0));
            JawBench y = Check.told("judge a 39 1;nut n 9 20 1;nut m 38 21 1;suit s a n 0;suit t a m 0;");
            Check.due("asked " + other, true, (other <= 5 ? y.tried(other, 0, 9) : other == 6 ? y.chance(7, 5, 0) : y.levers()) >= 0);
            y.go(1);
            Check.due("gone behind " + other, 21, y.count(10));
            Check.due("worn behind " + other, 48, y.count(5));
        }
    }

    @Says("TRIED otherwise (n 0 .. 99); NONE: no such ones (i 0 of all but 2).")
    static void promise36_tried_isNoneWithoutSuchOnes() {
        JawBench x = Check.told(Edges.FOUR);
        Edges.only("what", -1, 0, 5, what -> x.tried(what, 0, 1));
        for (int what = 0; what <= 5; what++) {
            int of = what;
            Edges.only("n of what " + what, -1, 0, 99, n -> x.tried(of, 0, n));
            Edges.only("i of what " + what, -1, 0, what == 2 ? 1 : 0, i -> x.tried(of, i, 1));
        }
        JawBench none = new JawBench();
        Edges.all("no judges", new int[] {0, 0, -1, 0, 0, 0, -1}, what -> none.tried(what, 0, 99));
        JawBench four = Check.told("judge a 1 0;judge b 1 0;judge c 1 0;judge d 1 0;");
        Edges.only("four judges", -1, 0, 3, i -> four.tried(2, i, 1));
    }
}
