/** Promises 6 to 17: what there is, and what is done by call and by days. */
public final class TestCourt {
    static final String FOUR = "judge ned 40 2;judge gus 20 0;nut wal 30 20 1;nut haz 8 11 0;"
            + "suit a ned wal 0;suit b gus haz 0;suit c gus wal 1;suit d ned haz 1;";

    public static void main(String[] args) {
        suits();
        judgesAndNuts();
        forces();
        slacks();
        verdicts();
        laws();
        values();
        giving();
        stones();
        putting();
        oiling();
        days();
        teethLost();
        wear();
        vacations();
        load();
        Check.end();
    }

    private static void suits() {
        JawBench x = Check.told(FOUR);
        Check.due("judge", 1, Check.suit(x, 2, 0));
        Check.due("nut", 0, Check.suit(x, 2, 1));
        Check.due("day", 1, Check.suit(x, 2, 2));
        Check.due("stone", 0, Check.suit(x, 2, 3));
        Check.due("verdict", -1, Check.suit(x, 2, 4));
        Check.due("gain", 0, Check.suit(x, 2, 5));
        Check.due("what 6", Check.NO_SUCH_ELEMENT, Check.suit(x, 2, 6));
        Check.due("what -1", Check.NO_SUCH_ELEMENT, Check.suit(x, 0, -1));
        Check.due("suit 4", Check.INDEX_OUT_OF_BOUNDS, Check.suit(x, 4, 0));
        Check.due("suit -1", Check.INDEX_OUT_OF_BOUNDS, Check.suit(x, -1, 0));
        Check.due("neither", Check.INDEX_OUT_OF_BOUNDS, Check.suit(x, 4, 6));
        x.go(2);
        Check.due("halved", 2, Check.suit(x, 0, 4));
        Check.due("its gain", 10, Check.suit(x, 0, 5));
        Check.due("whole", 1, Check.suit(x, 1, 4));
        Check.due("its gain", 11, Check.suit(x, 1, 5));
        Check.due("kept", 0, Check.suit(x, 2, 4));
        Check.due("its gain", 0, Check.suit(x, 2, 5));
        Check.due("crumbs", 3, Check.suit(x, 3, 4));
        Check.due("its gain", 0, Check.suit(x, 3, 5));
        Check.due("the mouse's", 11, x.count(11));
    }

    private static void judgesAndNuts() {
        JawBench x = Check.told(FOUR);
        Check.due("jaw", 20, x.judge(1, 0));
        Check.due("teeth", 2, x.judge(0, 1));
        Check.due("tried", 0, x.judge(0, 2));
        Check.due("whole", 0, x.judge(0, 3));
        Check.due("what 4", -1, x.judge(0, 4));
        Check.due("what -1", -1, x.judge(0, -1));
        Check.due("judge 2", -1, x.judge(2, 0));
        Check.due("judge -1", -1, x.judge(-1, 0));
        Check.due("hard", 8, x.nut(1, 0));
        Check.due("worth", 11, x.nut(1, 1));
        Check.due("bitter", 1, x.nut(0, 2));
        Check.due("nut what 3", -1, x.nut(0, 3));
        Check.due("nut what -1", -1, x.nut(0, -1));
        Check.due("nut 2", -1, x.nut(2, 0));
        Check.due("nut -1", -1, x.nut(-1, 0));
        x.go(2);
        Check.due("tried by gus", 2, x.judge(1, 2));
        Check.due("whole by gus", 1, x.judge(1, 3));
        Check.due("whole by ned", 0, x.judge(0, 3));
    }

    private static void forces() {
        JawBench x = Check.told("judge a 7 1;judge b 7 0;nut n 5 9 3;lever 99;");
        Check.due("jaw times lever by 50, cut", 13, x.force(0, 0));
        Check.due("half of it, cut", 6, x.force(1, 0));
        Check.due("no such judge", -1, x.force(2, 0));
        Check.due("no such judge", -1, x.force(-1, 0));
        Check.due("no such nut", -1, x.force(0, 1));
        Check.due("no such nut", -1, x.force(0, -1));
        x = Check.told("judge a 7 1;judge b 7 0;nut n 5 9 3;law force 2000*jaw;");
        Check.due("999 at most", 999, x.force(0, 0));
        Check.due("half of that", 499, x.force(1, 0));
        x = Check.told("judge a 7 1;nut n 5 9 3;law force jaw-1000;");
        Check.due("0 at least", 0, x.force(0, 0));
        Check.due("the law's own", -993, x.law(0, 0, 0));
        x = Check.told("judge a 7 1;judge b 7 0;nut n 5 9 3;lever 50;law force 1/0;");
        Check.due("as without, with an error", 7, x.force(0, 0));
        Check.due("as without, with an error, halved", 3, x.force(1, 0));
    }

    private static void slacks() {
        JawBench x = Check.told("judge a 7 1;nut n 5 9 3;");
        Check.due("10 without", 10, x.slack(0, 0));
        Check.due("no such judge", -1, x.slack(1, 0));
        Check.due("no such nut", -1, x.slack(0, 1));
        Check.due("1 at least", 1, Check.told("judge a 7 1;nut n 5 9 3;law slack 0-5;").slack(0, 0));
        Check.due("99 at most", 99, Check.told("judge a 7 1;nut n 5 9 3;law slack 500;").slack(0, 0));
        Check.due("10 with an error", 10, Check.told("judge a 7 1;nut n 5 9 3;law slack 5/load;").slack(0, 0));
        Check.due("by its law", 8, Check.told("judge a 7 1;nut n 5 9 3;law slack hard+bitter;").slack(0, 0));
    }

    private static void verdicts() {
        String judge = "judge a 50 1;";
        int[][] hardAndVerdict = {{51, 0}, {50, 1}, {41, 1}, {40, 2}, {31, 2}, {30, 3}, {0, 3}};
        for (int[] pair : hardAndVerdict) {
            JawBench x = Check.told(judge + "nut n " + pair[0] + " 9 3;");
            Check.due("verdict at " + pair[0], pair[1], x.verdict(0, 0));
        }
        JawBench x = Check.told(judge + "nut n 1 9 3;");
        Check.due("no such judge", -1, x.verdict(1, 0));
        Check.due("no such nut", -1, x.verdict(0, 1));
    }

    private static void laws() {
        JawBench x = Check.told("judge a 7 1;judge b 5 4;nut n 5 9 3;nut m 6 1 2;suit s a n 0;"
                + "law force jaw*1000+teeth*100+hard*10+bitter;law wear lever*100+load*10+day;");
        Check.due("force", 7153, x.law(0, 0, 0));
        Check.due("force", 5462, x.law(0, 1, 1));
        Check.due("no slack told", Long.MIN_VALUE, x.law(1, 0, 0));
        Check.due("wear", 5000, x.law(2, 0, 0));
        x.stone(0, true);
        Check.due("without a stone", 7153, x.law(0, 0, 0));
        x.go(3);
        Check.due("wear on day 3", 4103, x.law(2, 0, 0));
        Check.due("what 3", Long.MIN_VALUE, x.law(3, 0, 0));
        Check.due("what -1", Long.MIN_VALUE, x.law(-1, 0, 0));
        Check.due("judge 2", Long.MIN_VALUE, x.law(0, 2, 0));
        Check.due("judge -1", Long.MIN_VALUE, x.law(0, -1, 0));
        Check.due("nut 2", Long.MIN_VALUE, x.law(0, 0, 2));
        Check.due("nut -1", Long.MIN_VALUE, x.law(0, 0, -1));
    }

    private static void values() {
        Check.value("1+2*3", 7);
        Check.value("(1+2)*3", 9);
        Check.value("10-3-2", 5);
        Check.value("100/7/2", 7);
        Check.value("7*3/2", 10);
        Check.value("7/2*3", 9);
        Check.value("2-9/2", -2);
        Check.value("(2-9)/2", -3);
        Check.value("(2-9)/(0-2)", 3);
        Check.value("9/(0-2)", -4);
        Check.value("3<4", 1);
        Check.value("4<4", 0);
        Check.value("4<=4", 1);
        Check.value("5<=4", 0);
        Check.value("4=4", 1);
        Check.value("4=5", 0);
        Check.value("4<>5", 1);
        Check.value("4<>4", 0);
        Check.value("4>=4", 1);
        Check.value("3>=4", 0);
        Check.value("4>3", 1);
        Check.value("4>4", 0);
        Check.value("not 5", 0);
        Check.value("not 0", 1);
        Check.value("not not 5", 1);
        Check.value("not ".repeat(63) + "1", 0);
        Check.value("((((((((" + "not ".repeat(63) + "0))))))))", 1);
        Check.value("1+(2*(3-(4<(5 and (6 or (7=(8)))))))", 7);
        Check.value("not 1<0", 1);
        Check.value("not 1+1", 0);
        Check.value("5 and 3", 1);
        Check.value("5 and 0", 0);
        Check.value("0 or 3", 1);
        Check.value("0 or 0", 0);
        Check.value("1 or 0 and 0", 1);
        Check.value("(1 or 0) and 0", 0);
        Check.value("not 0 and 0", 0);
        Check.value("not (0 and 0)", 1);
        Check.value("not 0 or 1", 1);
        Check.value("1+2<4 and 2*3=6", 1);
        Check.value("(0-1) and 1", 1);
        Check.value("1/0", Long.MIN_VALUE);
        Check.value("0 and 1/0", Long.MIN_VALUE);
        Check.value("1 or 1/0", Long.MIN_VALUE);
        Check.value("1000*1000*1000*1000", 1000000000000L);
        Check.value("1000*1000*1000*1000+1", Long.MIN_VALUE);
        Check.value("1000*1000*1000*1000+1-1", Long.MIN_VALUE);
        Check.value("0-1000*1000*1000*1000", -1000000000000L);
        Check.value("0-1000*1000*1000*1000-1", Long.MIN_VALUE);
        Check.value("(0-1000)*1000*1000*1000", -1000000000000L);
        Check.value("(0-1000)*1000*1000*1001", Long.MIN_VALUE);
        Check.value("9999*9999*9999*9999*0", Long.MIN_VALUE);
        Check.value("9999*9999*9999*(9999*9999*9999)", Long.MIN_VALUE);
        Check.value("1000*1000*1000*1000*(4096*1024*1024)", Long.MIN_VALUE);
        Check.value("1000*1000*1000*1000*1000*1000", Long.MIN_VALUE);
        Check.value("0*(1000*1000*1000*1000)", 0);
        Check.value("1000*1000*1000*1000/7", 142857142857L);
    }

    private static void giving() {
        JawBench x = Check.told(FOUR);
        Check.due("it is so", false, x.give(0, 0));
        Check.due("given", true, x.give(0, 1));
        Check.due("before gus", 1, Check.suit(x, 0, 0));
        Check.due("no such judge", false, x.give(0, 2));
        Check.due("no such judge", false, x.give(0, -1));
        Check.due("no such suit", false, x.give(4, 0));
        Check.due("no such suit", false, x.give(-1, 0));
        x.go(1);
        Check.due("tried", false, x.give(0, 0));
        Check.due("kept by gus", 0, Check.suit(x, 0, 4));
    }

    private static void stones() {
        JawBench x = Check.told(FOUR);
        Check.due("none is in", false, x.stone(0, false));
        Check.due("put in", true, x.stone(0, true));
        Check.due("it is in", 1, Check.suit(x, 0, 3));
        Check.due("in no other", 0, Check.suit(x, 1, 3));
        Check.due("it is so", false, x.stone(0, true));
        Check.due("taken out", true, x.stone(0, false));
        Check.due("it is out", 0, Check.suit(x, 0, 3));
        Check.due("no such suit", false, x.stone(4, true));
        Check.due("no such suit", false, x.stone(-1, true));
        x.stone(1, true);
        x.go(1);
        Check.due("tried", false, x.stone(0, true));
        Check.due("30 harder", 0, Check.suit(x, 1, 4));
        Check.due("a tried one's stone stays", 1, Check.suit(x, 1, 3));
    }

    private static void putting() {
        JawBench x = Check.told(FOUR);
        Check.due("it is on that day", false, x.put(0, 0));
        Check.due("put off", true, x.put(0, 5));
        Check.due("its day", 5, Check.suit(x, 0, 2));
        Check.due("to the last day", true, x.put(0, 9999));
        Check.due("beyond", false, x.put(0, 10000));
        Check.due("below", false, x.put(0, -1));
        Check.due("no such suit", false, x.put(4, 1));
        Check.due("no such suit", false, x.put(-1, 1));
        x.go(2);
        Check.due("tried", false, x.put(1, 7));
        Check.due("behind today", false, x.put(0, 1));
        Check.due("today", true, x.put(0, 2));
        Check.due("not tried yet", -1, Check.suit(x, 0, 4));
        x.go(1);
        Check.due("tried on its new day", 1, Check.suit(x, 0, 4) >= 0 ? 1 : 0);
    }

    private static void oiling() {
        JawBench x = Check.told(FOUR);
        Check.due("oil 0", -1, x.oil(0));
        Check.due("oil -1", -1, x.oil(-1));
        Check.due("oil 99", -1, x.oil(99));
        Check.due("oil above 99", -1, x.oil(50));
        Check.due("oil huge", -1, x.oil(Integer.MAX_VALUE));
        Check.due("oil to 99", 99, x.oil(49));
        Check.due("lever", 99, x.count(5));
        Check.due("no more", -1, x.oil(1));
        x = Check.told("lever 1;");
        Check.due("oil 98", 99, x.oil(98));
    }

    private static void days() {
        JawBench x = Check.told(FOUR);
        Check.due("go(-1)", -1, x.go(-1));
        Check.due("go(100)", -1, x.go(100));
        Check.due("go(0)", 0, x.go(0));
        Check.due("none tried by go(0)", 0, x.count(6) + x.count(7) + x.count(8) + x.count(9));
        Check.due("go(1)", 1, x.go(1));
        Check.due("two tried", 2, x.count(7) + x.count(8));
        Check.due("go(99)", 100, x.go(99));
        for (int i = 0; i < 98; i++) {
            x.go(99);
        }
        Check.due("far on", 9802, x.count(4));
        Check.due("to 9901", -1, x.go(99));
        Check.due("none went by", 9802, x.count(4));
        Check.due("to 9900", 9900, x.go(98));
        Check.due("on it", 9900, x.go(0));
        Check.due("behind it", -1, x.go(1));
        Check.due("ahead of it may be asked", 47, x.ahead(99, 5));
    }

    private static void teethLost() {
        // 10 at 30: 20 below, which is twice the slack; 10 at 29 isn't.
        JawBench x = Check.told("judge a 10 1;nut n 30 9 3;nut m 29 9 3;suit s a m 0;suit t a n 1;suit u a n 2;");
        x.go(1);
        Check.due("19 below", 1, x.judge(0, 1));
        x.go(1);
        Check.due("20 below", 0, x.judge(0, 1));
        Check.due("lost", 1, x.count(12));
        x.go(1);
        Check.due("none to lose", 0, x.judge(0, 1));
        Check.due("lost", 1, x.count(12));
        Check.due("kept", 3, x.count(6));
        Check.due("the lever isn't worn by these", 50, x.count(5));
    }

    private static void wear() {
        JawBench x = Check.told("judge a 10 1;nut n 5 9 3;suit s a n 0;suit t a n 0;");
        x.go(1);
        Check.due("1 each without", 48, x.count(5));
        x = Check.told("judge a 10 1;nut n 5 9 3;suit s a n 0;law wear 1/0;");
        x.go(1);
        Check.due("1 with an error", 49, x.count(5));
        x = Check.told("judge a 10 1;nut n 5 9 3;suit s a n 0;law wear 100;");
        x.go(1);
        Check.due("9 at most", 41, x.count(5));
        x = Check.told("judge a 10 1;nut n 5 9 3;suit s a n 0;law wear 0-100;");
        x.go(1);
        Check.due("0 at least", 50, x.count(5));
        x = Check.told("judge a 99 1;nut n 1 9 3;suit s a n 0;law wear 9;lever 5;");
        x.go(1);
        Check.due("the lever is 1 at least", 1, x.count(5));
        x = Check.told("judge a 10 1;nut n 5 9 3;suit s a n 0;suit t a n 0;law wear load*2+hard;law force hard;");
        x.stone(0, true);
        x.go(1);
        // 35 + 2 is cut to 9; 5 + 4 is 9.
        Check.due("by the stone and the load", 32, x.count(5));
        x = Check.told("judge a 10 1;nut n 5 9 3;suit s a n 0;suit t a n 0;law wear lever/10-2;law force hard;lever 40;");
        x.go(1);
        // 40/10-2 = 2, then 38/10-2 = 1.
        Check.due("ahead of the lever's being less", 37, x.count(5));
    }

    private static void vacations() {
        String text = "judge a 10 2;judge b 50 2;nut n 30 9 3;suit s a n 0;suit t b n 0;suit u a n 1;suit v b n 2;lever 50;";
        JawBench x = Check.told(text + "rest 2;");
        x.go(1);
        Check.due("day 1 is over: teeth", 1, x.judge(0, 1));
        Check.due("day 1 is over: lever", 49, x.count(5));
        x.go(1);
        Check.due("two are over: teeth", 2, x.judge(0, 1));
        Check.due("two are over: lever", 50, x.count(5));
        Check.due("lost in all", 2, x.count(12));
        x.oil(9);
        x.go(1);
        Check.due("oil is worn", 58, x.count(5));
        x.go(1);
        Check.due("and gone with the vacation", 50, x.count(5));
        x = Check.told(text + "rest 1;");
        x.go(1);
        Check.due("each day: teeth", 2, x.judge(0, 1));
        Check.due("each day: lever", 50, x.count(5));
        x = Check.told(text + "rest 0;");
        x.go(60);
        Check.due("never: teeth", 0, x.judge(0, 1));
        Check.due("never: lever", 48, x.count(5));
        x = Check.told(text + "rest 30;");
        Check.due("day 29 isn't the end: lever", 48, x.ahead(29, 5));
        Check.due("behind day 30: lever", 50, x.ahead(30, 5));
        x.go(29);
        Check.due("29 are over", 48, x.count(5));
        x.go(1);
        Check.due("30 are over", 50, x.count(5));
    }

    private static void load() {
        // The force is what the judge has tried on this day: each one is 10 more.
        JawBench x = Check.told("judge a 1 1;judge b 1 1;nut n 10 9 3;suit s a n 0;suit t a n 0;suit u b n 0;suit v a n 0;suit w a n 1;"
                + "law force load*10;law wear 0;");
        x.go(2);
        int[] due = {0, 1, 0, 2, 0};
        for (int s = 0; s < due.length; s++) {
            Check.due("suit " + s + " by load", due[s], Check.suit(x, s, 4));
        }
        Check.due("load is none between days", 0, x.law(0, 0, 0));
        x = Check.told("judge a 1 1;nut n 10 9 3;suit s a n 0;suit t a n 1;suit u a n 2;law force day*10;");
        x.go(3);
        Check.due("on day 0", 0, Check.suit(x, 0, 4));
        Check.due("on day 1", 1, Check.suit(x, 1, 4));
        Check.due("on day 2", 2, Check.suit(x, 2, 4));
    }
}
