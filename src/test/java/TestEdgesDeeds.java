/** Promises 13 to 17 at their boundaries: give, stone, put, oil, go, and what a DAY does. */
public final class TestEdgesDeeds {
    public static void main(String[] args) {
        Edges.run(TestEdgesDeeds.class);
    }

    // ---- 13: give

    @Says("A SUIT that isn't TRIED is before a JUDGE from now on: true;")
    static void promise13_give_putsASuitBeforeAJudge() {
        JawBench x = Check.told(Edges.FOUR);
        Check.due("the first suit to the last judge", true, x.give(0, 1));
        Check.due("the last suit to the last judge", true, x.give(3, 1));
        Check.due("the last suit to the first judge", true, x.give(3, 0));
        Edges.all("judges", new int[] {1, 1, 1, 0}, s -> Check.suit(x, s, 0));
        x.go(9);
        Check.due("tried by the other", 3, x.judge(1, 2));
        Edges.all("judges still", new int[] {1, 1, 1, 0}, s -> Check.suit(x, s, 0));
    }

    @Says("false: no such ones, TRIED, it is so.")
    static void promise13_give_isRefused() {
        JawBench x = Check.told(Edges.FOUR);
        Edges.same("suit", s -> x.give(s, 1) ? 1 : 0, 0, Integer.MIN_VALUE, -1, 4, 9, 10, Integer.MAX_VALUE);
        Edges.same("judge", j -> x.give(0, j) ? 1 : 0, 0, Integer.MIN_VALUE, -1, 2, 3, 4, Integer.MAX_VALUE);
        Check.due("it is so", false, x.give(0, 0));
        Check.due("it is so", false, x.give(1, 1));
        x.go(1);
        Check.due("tried", false, x.give(0, 1));
        Check.due("tried", false, x.give(1, 0));
        Check.due("not tried", true, x.give(2, 0));
        Edges.all("judges", new int[] {0, 1, 0, 0}, s -> Check.suit(x, s, 0));
        Check.due("one deed alone", 1, x.count(15));
    }

    // ---- 14: stone

    @Says("A STONE is in a SUIT that isn't TRIED, or no more: true;")
    static void promise14_stone_isInOrNoMore() {
        JawBench x = Check.told("judge a 1 0;nut n 1 0 0;" + Edges.suits(0, 9, "a n 1"));
        for (int s : new int[] {0, 4, 9}) {
            Check.due("in " + s, true, x.stone(s, true));
        }
        Edges.all("stones", new int[] {1, 0, 0, 0, 1, 0, 0, 0, 0, 1}, s -> Check.suit(x, s, 3));
        Check.due("no more", true, x.stone(4, false));
        Edges.all("stones", new int[] {1, 0, 0, 0, 0, 0, 0, 0, 0, 1}, s -> Check.suit(x, s, 3));
        x.go(2);
        Edges.all("tried ones keep theirs", new int[] {1, 0, 0, 0, 0, 0, 0, 0, 0, 1}, s -> Check.suit(x, s, 3));
    }

    @Says("false: no such one, TRIED, it is so.")
    static void promise14_stone_isRefused() {
        JawBench x = Check.told(Edges.FOUR);
        Edges.same("in", s -> x.stone(s, true) ? 1 : 0, 0, Integer.MIN_VALUE, -1, 4, 9, 10, 32, Integer.MAX_VALUE);
        Edges.same("out", s -> x.stone(s, false) ? 1 : 0, 0, Integer.MIN_VALUE, -1, 0, 3, 4, 10, Integer.MAX_VALUE);
        x.stone(0, true);
        Check.due("it is so", false, x.stone(0, true));
        x.go(1);
        Check.due("tried, with one", false, x.stone(0, false));
        Check.due("tried, without one", false, x.stone(1, true));
        Check.due("not tried", true, x.stone(2, true));
        Edges.all("stones", new int[] {1, 0, 1, 0}, s -> Check.suit(x, s, 3));
        Check.due("one deed alone", 1, x.count(15));
    }

    @Says("HARDNESS: HARD, 30 more with a STONE.")
    static void promise14_stone_makesItHarderBy30() {
        int[][] hardAndVerdict = {{20, 1}, {21, 0}, {19, 1}, {11, 1}, {10, 2}};
        for (int[] row : hardAndVerdict) {
            JawBench x = Check.told("judge a 50 1;nut n " + row[0] + " 9 1;suit s a n 0;law wear hard-48;");
            x.stone(0, true);
            x.go(1);
            Check.due("50 at 30 more than " + row[0], row[1], Check.suit(x, 0, 4));
        }
        JawBench x = Check.told("judge a 50 1;nut n 99 9 1;suit s a n 0;law force hard;law slack hard=129;law wear hard-125;");
        x.stone(0, true);
        x.go(1);
        Check.due("129 at 129, slack 1", 1, Check.suit(x, 0, 4));
        Check.due("worn by 129 - 125", 46, x.count(5));
    }

    // ---- 15: put

    @Says("A SUIT that isn't TRIED is put to a DAY from today on, 9999 at most: true;")
    static void promise15_put_isFromTodayTo9999() {
        JawBench x = Check.told(Edges.FOUR);
        x.go(1);
        Check.due("tomorrow", true, x.put(2, 2));
        Check.due("today", true, x.put(2, 1));
        Check.due("9998", true, x.put(2, 9998));
        Check.due("9999", true, x.put(2, 9999));
        Check.due("the last one, from its day", true, x.put(3, 100));
        Edges.all("days", new int[] {0, 0, 9999, 100}, s -> Check.suit(x, s, 2));
        x.put(2, 1);
        x.go(1);
        Check.due("put to today it is tried", 0, Check.suit(x, 2, 4));
        Check.due("put off it isn't", -1, Check.suit(x, 3, 4));
        x.go(98);
        Check.due("not yet", -1, Check.suit(x, 3, 4));
        Check.due("day 100", 101, x.go(1));
        Check.due("then", 3, Check.suit(x, 3, 4));
    }

    @Says("false: no such ones, TRIED, it is on that DAY.")
    static void promise15_put_isRefused() {
        JawBench x = Check.told(Edges.FOUR);
        Edges.same("day", day -> x.put(3, day) ? 1 : 0, 0, Integer.MIN_VALUE, -1, 1, 10000, 10001, Integer.MAX_VALUE);
        Edges.same("suit", s -> x.put(s, 5) ? 1 : 0, 0, Integer.MIN_VALUE, -1, 4, 9, 10, Integer.MAX_VALUE);
        Check.due("it is on day 0", false, x.put(0, 0));
        x.go(1);
        Edges.same("day from 1 on", day -> x.put(3, day) ? 1 : 0, 0, Integer.MIN_VALUE, -1, 0, 1, 10000, Integer.MAX_VALUE);
        Check.due("tried", false, x.put(0, 5));
        x.put(3, 9999);
        Check.due("it is on day 9999", false, x.put(3, 9999));
        Edges.all("days", new int[] {0, 0, 1, 9999}, s -> Check.suit(x, s, 2));
        Check.due("one deed alone", 1, x.count(15));
    }

    // ---- 16: oil

    @Says("LEVER is so much 1 .. 98 more, by oil: LEVER;")
    static void promise16_oil_isFrom1To98() {
        Check.due("1", 2, Check.told("lever 1;").oil(1));
        Check.due("97", 98, Check.told("lever 1;").oil(97));
        Check.due("98", 99, Check.told("lever 1;").oil(98));
        JawBench x = Check.told("lever 1;rest 1;");
        Check.due("and again", 4, x.oil(3));
        Check.due("and again", 5, x.oil(1));
        Check.due("lever", 5, x.count(5));
        Check.due("as told behind a vacation", 1, x.ahead(1, 5));
    }

    @Says("NONE: no such number, it would be above 99.")
    static void promise16_oil_isRefusedAbove99() {
        JawBench x = Check.told("lever 1;");
        Edges.same("oil", x::oil, -1, Integer.MIN_VALUE, -1, 0, 99, 100, Integer.MAX_VALUE);
        for (int lever : new int[] {2, 50, 97, 98}) {
            JawBench y = Check.told("lever " + lever + ";");
            Check.due("beyond 99 from " + lever, -1, y.oil(100 - lever));
            Check.due("as it was", lever, y.count(5));
            Check.due("nothing to undo", 0, y.count(15));
            Check.due("to 99 from " + lever, 99, y.oil(99 - lever));
        }
        JawBench y = Check.told("lever 99;");
        Edges.same("oil at 99", y::oil, -1, 0, 1, 98, 99);
    }

    // ---- 17: go

    @Says("So many DAYS (0 .. 99) go by: which one it is;")
    static void promise17_go_isFrom0To99Days() {
        JawBench x = Check.told(Edges.FOUR);
        Check.due("none", 0, x.go(0));
        Check.due("none is tried by none", -1, Check.suit(x, 0, 4));
        Check.due("one", 1, x.go(1));
        Check.due("that day's are tried", 2, Check.suit(x, 0, 4));
        Check.due("the next day's aren't", -1, Check.suit(x, 2, 4));
        Check.due("none again", 1, x.go(0));
        Check.due("98", 99, x.go(98));
        Check.due("99", 198, x.go(99));
        Check.due("the day", 198, x.count(4));
    }

    @Says("So many DAYS (0 .. 99) go by: which one it is;")
    static void promise17_go_passesTenDaysWithSuits() {
        for (int apart : new int[] {1, 2, 9, 10}) {
            StringBuilder text = new StringBuilder("judge a 50 1;nut n 45 9 1;law wear 1;rest 30;");
            for (int s = 0; s < 10; s++) {
                text.append(Edges.suits(s, s, "a n " + s * apart));
            }
            JawBench y = Check.told(text.toString());
            Check.due("days without suits behind them", 99, y.go(99));
            Check.due("with their vacation", apart < 10 ? 50 : 49, y.count(5));
            JawBench x = Check.told(text.toString());
            x.put(9, 98);
            Check.due("ten, " + apart + " apart, in 98 days", 9, x.ahead(98, 1) + x.ahead(98, 0) + x.ahead(98, 2));
            Check.due("as told on day 90, worn on day 98", 49, x.ahead(99, 5));
            Check.due("which one it is", 99, x.go(99));
            Check.due("all ten are tried", 10, x.judge(0, 2));
            Check.due("the lever", 49, x.count(5));
            Check.due("on to a vacation", 120, x.go(21));
            Check.due("as told", 50, x.count(5));
        }
    }

    @Says("NONE, and none does: no such number, behind 9900.")
    static void promise17_go_isRefusedBehind9900() {
        JawBench x = Check.told(Edges.FOUR);
        Edges.same("go", x::go, -1, Integer.MIN_VALUE, -1, 100, 101, Integer.MAX_VALUE);
        Check.due("none went by", 0, x.count(4));
        Check.due("none is tried", -1, Check.suit(x, 0, 4));
        x.put(3, 9899);
        x.put(2, 9900);
        for (int i = 1; i < 100; i++) {
            Check.due("go(99)", 99 * i, x.go(99));
        }
        x.go(1);
        Check.due("beyond by one", -1, x.go(99));
        Check.due("none went by", 9802, x.count(4));
        Check.due("not tried", -1, Check.suit(x, 3, 4));
        Check.due("to 9900", 9900, x.go(98));
        Check.due("tried", 3, Check.suit(x, 3, 4));
        Check.due("not tried on 9900", -1, Check.suit(x, 2, 4));
        Edges.same("behind 9900", x::go, -1, 1, 2, 99, 100);
        Check.due("it stays", 9900, x.go(0));
        Check.due("oil goes on", 49, x.oil(2));
    }

    @Says("A DAY: (1) by numbers each SUIT of this DAY that isn't TRIED yet is TRIED: its VERDICT;")
    static void promise17_go_triesTheDaysSuitsByNumbers() {
        // Each makes the next one's force 10 more: which number comes when can be seen.
        JawBench x = Check.told("judge a 1 9;nut n 10 8 1;suit s a n 1;suit t a n 0;suit u a n 1;suit v a n 0;suit w a n 1;law force load*10;law wear 0;");
        x.go(1);
        Edges.all("day 0", new int[] {-1, 0, -1, 1, -1}, s -> Check.suit(x, s, 4));
        x.put(4, 2);
        x.go(1);
        Edges.all("day 1", new int[] {0, 0, 1, 1, -1}, s -> Check.suit(x, s, 4));
        x.go(9);
        Edges.all("day 2", new int[] {0, 0, 1, 1, 0}, s -> Check.suit(x, s, 4));
        x.go(9);
        Check.due("none is tried twice", 5, x.judge(0, 2));
    }

    @Says("KEPT, and HARDNESS twice SLACK more than FORCE at least: the JUDGE loses a TOOTH, if it has one;")
    static void promise17_go_losesAToothAtTwiceSlack() {
        for (int slack : new int[] {1, 10, 40}) {
            for (int more : new int[] {1, 2 * slack - 1, 2 * slack, 2 * slack + 1}) {
                String text = "judge a 10 3;nut n " + (10 + more) + " 9 1;suit s a n 0;law slack " + slack + ";";
                JawBench x = Check.told(text);
                x.go(1);
                boolean lost = more >= 2 * slack;
                Check.due("kept at " + more + " more, slack " + slack, 0, Check.suit(x, 0, 4));
                Check.due("teeth at " + more + " more, slack " + slack, lost ? 2 : 3, x.judge(0, 1));
                Check.due("lost", lost ? 1 : 0, x.count(12));
                Check.due("the lever isn't worn", 50, x.count(5));
            }
        }
        JawBench x = Check.told("judge a 50 2;judge b 50 1;nut n 99 9 1;suit s a n 0;suit t a n 0;suit u a n 0;suit v a n 0;");
        x.go(1);
        Check.due("no tooth is left", 0, x.judge(0, 1));
        Check.due("two in all", 2, x.count(12));
        Check.due("nobody else's", 1, x.judge(1, 1));
        // 50 at 70 loses the only tooth; 25 at 30 is kept then, where 50 would be crumbs.
        x = Check.told("judge a 50 1;nut n 70 9 1;nut m 30 9 1;suit s a n 0;suit t a m 0;");
        x.go(1);
        Check.due("lost at once: 25 at 30", 0, Check.suit(x, 1, 4));
    }

    @Says("not KEPT: LEVER is less by E of wear (0 .. 9; 1 without, with an ERROR), 1 at least.")
    static void promise17_go_wearsTheLeverBy0To9() {
        String text = "judge a 50 1;nut n 0 9 1;suit s a n 0;law force 5;";
        String[] e = {"0-9999", "0-1", "0", "1", "2", "8", "9", "10", "9999", "1/0", "1000*1000*1000*1000", "1000*1000*1000*1000+1", "4096*1024*1024+3"};
        int[] due = {50, 50, 50, 49, 48, 42, 41, 41, 41, 49, 41, 49, 41};
        for (int i = 0; i < e.length; i++) {
            Check.due("wear " + e[i], due[i], leverThen(text + "law wear " + e[i] + ";"));
        }
        Check.due("without", 49, leverThen(text));
        Check.due("without, but other laws", 49, leverThen(text + "law slack 4;"));
        int[][] leverWearDue = {{11, 9, 2}, {10, 9, 1}, {9, 9, 1}, {1, 9, 1}, {1, 0, 1}, {1, 1, 1}, {2, 1, 1}, {2, 2, 1}, {3, 1, 2}};
        for (int[] row : leverWearDue) {
            Check.due("lever " + row[0] + " by " + row[1], row[2], leverThen(text + "lever " + row[0] + ";law wear " + row[1] + ";"));
        }
        // Whole, halved, crumbs wear; kept doesn't.
        String[] forces = {"9", "10", "19", "20", "29", "30"};
        int[] levers = {50, 47, 47, 47, 47, 47};
        for (int i = 0; i < forces.length; i++) {
            Check.due("force " + forces[i], levers[i], leverThen("judge a 1 1;nut n 10 9 1;suit s a n 0;law wear 3;law force " + forces[i] + ";"));
        }
    }

    @Says("(2) if the number of DAYS that are over then can be divided by rest (not 0): LEVER and TEETH of all are as told. It is the next DAY.")
    static void promise17_go_hasVacations() {
        String text = "judge a 10 9;judge b 50 5;nut n 45 9 1;suit s a n 0;suit t b n 0;suit u a n 1;suit v b n 1;suit w a n 2;suit x b n 2;lever 50;";
        int[][] ofRest0 = {{50, 9, 5}, {49, 8, 5}, {48, 7, 5}, {47, 6, 5}, {47, 6, 5}};
        int[][] ofRest1 = {{50, 9, 5}, {50, 9, 5}, {50, 9, 5}, {50, 9, 5}, {50, 9, 5}};
        int[][] ofRest2 = {{50, 9, 5}, {49, 8, 5}, {50, 9, 5}, {49, 8, 5}, {50, 9, 5}};
        int[][] ofRest3 = {{50, 9, 5}, {49, 8, 5}, {48, 7, 5}, {50, 9, 5}, {50, 9, 5}};
        int[][][] due = {ofRest0, ofRest1, ofRest2, ofRest3};
        for (int rest = 0; rest < due.length; rest++) {
            JawBench x = Check.told(text + "rest " + rest + ";");
            for (int day = 0; day < 5; day++) {
                Check.due("lever, rest " + rest + " day " + day, due[rest][day][0], x.count(5));
                Check.due("teeth, rest " + rest + " day " + day, due[rest][day][1], x.judge(0, 1));
                Check.due("other teeth, rest " + rest + " day " + day, due[rest][day][2], x.judge(1, 1));
                Check.due("the next day", day + 1, x.go(1));
            }
            Check.due("lost in all stay lost", 3, x.count(12));
        }
    }

    @Says("if the number of DAYS that are over then can be divided by rest (not 0)")
    static void promise17_go_countsDaysForVacations() {
        for (int rest : new int[] {0, 1, 2, 7, 29, 30}) {
            for (int from = 0; from <= 61; from++) {
                JawBench x = Check.told("rest " + rest + ";");
                x.go(from);
                x.oil(1);
                boolean vacation = false;
                for (int n = 0; n <= 61; n++) {
                    vacation |= n > 0 && rest > 0 && (from + n) % rest == 0;
                    Check.due("rest " + rest + " from " + from + " in " + n, vacation ? 50 : 51, x.ahead(n, 5));
                }
            }
        }
    }

    @Says("load: how many SUITS that JUDGE has TRIED on this DAY by then; day.")
    static void promise17_go_countsLoadByJudgeAndDay() {
        JawBench x = Check.told("judge a 1 9;judge b 1 9;nut n 10 8 1;suit s a n 0;suit t b n 0;suit u a n 0;suit v b n 0;suit w a n 0;suit y a n 1;"
                + "law force load*10;law slack 5;law wear 0;");
        x.go(2);
        // a: 0, 10, 20; b: 0, 10; a anew on day 1: 0.
        Edges.all("verdicts", new int[] {0, 0, 1, 1, 3, 0}, s -> Check.suit(x, s, 4));
        JawBench y = Check.told("judge a 1 9;nut n 10 8 1;suit s a n 0;suit t a n 1;suit u a n 2;suit v a n 99;law force day*10;law wear 0;");
        y.go(99);
        y.go(1);
        Edges.all("by day", new int[] {0, 1, 2, 3}, s -> Check.suit(y, s, 4));
    }

    @Says("(Of wear behind the TOOTH, ahead of the LEVER's being less; load then with this one.)")
    static void promise17_go_wearsWithThisOneInLoad() {
        String text = "judge a 50 9;judge b 50 9;nut n 0 9 1;suit s a n 0;suit t a n 0;suit u b n 0;law force 1;";
        Check.due("1, 2, 1", 46, leverThen(text + "law wear load;"));
        // 50 - 45 = 5, 45 - 45 = 0, then 0.
        Check.due("by the lever ahead", 45, leverThen(text + "law wear lever-45;"));
        // 60: kept, a tooth less; then whole, worn by 8 teeth.
        String tooth = "judge a 30 9;nut n 60 9 1;nut m 30 9 1;suit s a n 0;suit t a m 0;law wear teeth;";
        Check.due("by the teeth now", 42, leverThen(tooth));
        Check.due("by hardness", 45, leverThen("judge a 35 9;nut n 35 9 1;suit s a n 0;law wear hard-30;"));
        Check.due("by the day", 47, leverThen("judge a 35 9;nut n 35 9 1;suit s a n 0;law wear day+3;"));
    }

    private static int leverThen(String text) {
        JawBench x = Check.told(text);
        x.go(1);
        return x.count(5);
    }
}
