/** Promises 6 to 12 at their boundaries: suit, judge, nut, force, slack, verdict, law. */
public final class TestEdgesCourt {
    private static final String PAIR = "judge a 7 1;judge b 7 0;nut n 5 9 3;nut m 0 1 0;";

    public static void main(String[] args) {
        Edges.run(TestEdgesCourt.class);
    }

    // ---- 6: suit

    @Says("Of a SUIT now, what 0 the JUDGE, 1 the NUT, 2 the DAY, 3 whether a STONE is in (1, 0),")
    static void promise6_suit_isAsItIsNow() {
        JawBench x = Check.told(Edges.FOUR);
        int[][] due = {{0, 0, 0, 0, -1, 0}, {1, 1, 0, 0, -1, 0}, {1, 0, 1, 0, -1, 0}, {0, 1, 1, 0, -1, 0}};
        for (int s = 0; s < 4; s++) {
            int suit = s;
            Edges.all("suit " + s, due[s], what -> Check.suit(x, suit, what));
        }
        x.give(3, 1);
        x.put(3, 9999);
        x.stone(3, true);
        Edges.all("changed", new int[] {1, 1, 9999, 1, -1, 0}, what -> Check.suit(x, 3, what));
        Edges.all("the one beside it", due[2], what -> Check.suit(x, 2, what));
        x.stone(3, false);
        Check.due("no stone", 0, Check.suit(x, 3, 3));
    }

    @Says("4 its VERDICT (NONE: not TRIED),")
    static void promise6_suit_hasNoVerdictUntilTried() {
        JawBench x = Check.told(Edges.FOUR);
        int[][] due = {{-1, -1, -1, -1}, {2, 1, -1, -1}, {2, 1, 0, 3}};
        for (int day = 0; day < 3; day++) {
            Edges.all("verdicts on day " + day, due[day], s -> Check.suit(x, s, 4));
            x.go(1);
        }
    }

    @Says("5 GAIN of it (0 if not TRIED).")
    static void promise6_suit_hasNoGainUntilTried() {
        JawBench x = Check.told(Edges.FOUR);
        int[][] due = {{0, 0, 0, 0}, {10, 11, 0, 0}, {10, 11, 0, 0}};
        for (int day = 0; day < 3; day++) {
            Edges.all("gains on day " + day, due[day], s -> Check.suit(x, s, 5));
            x.go(1);
        }
    }

    @Says("IndexOutOfBoundsException: no such SUIT.")
    static void promise6_suit_throwsWithoutSuchASuit() {
        JawBench x = Check.told(Edges.FOUR);
        for (int what = 0; what <= 5; what++) {
            int of = what;
            Edges.only("suit of what " + what, Check.INDEX_OUT_OF_BOUNDS, 0, 3, s -> Check.suit(x, s, of));
        }
        Check.due("no such suit, no such what", Check.INDEX_OUT_OF_BOUNDS, Check.suit(x, 4, 6));
        Check.due("no suits", Check.INDEX_OUT_OF_BOUNDS, Check.suit(new JawBench(), 0, 0));
        Check.tell(x, "judge a 1 1;nut n 1 1 1;suit s a n 0;");
        Check.due("one of the text ahead", Check.INDEX_OUT_OF_BOUNDS, Check.suit(x, 1, 0));
        Check.due("the one there is", 0, Check.suit(x, 0, 0));
    }

    @Says("NoSuchElementException: no such what.")
    static void promise6_suit_throwsWithoutSuchAWhat() {
        JawBench x = Check.told(Edges.FOUR);
        for (int s = 0; s < 4; s++) {
            int suit = s;
            Edges.only("what of suit " + s, Check.NO_SUCH_ELEMENT, 0, 5, what -> Check.suit(x, suit, what));
        }
        x.go(2);
        Edges.only("what of a tried one", Check.NO_SUCH_ELEMENT, 0, 5, what -> Check.suit(x, 0, what));
    }

    // ---- 7: judge

    @Says("Of a JUDGE now, what 0 JAW, 1 TEETH, 2 how many are TRIED by it so far, 3 of these WHOLE.")
    static void promise7_judge_isAsItIsNow() {
        JawBench x = Check.told(Edges.FOUR + "judge idle 99 9;nut e 61 9 9;suit e ned e 2;");
        int[][] ned = {{40, 2, 0, 0}, {40, 2, 1, 0}, {40, 2, 2, 0}, {40, 1, 3, 0}};
        int[][] gus = {{20, 0, 0, 0}, {20, 0, 1, 1}, {20, 0, 2, 1}, {20, 0, 2, 1}};
        for (int day = 0; day < 4; day++) {
            Edges.all("ned on day " + day, ned[day], what -> x.judge(0, what));
            Edges.all("gus on day " + day, gus[day], what -> x.judge(1, what));
            Edges.all("idle on day " + day, new int[] {99, 9, 0, 0}, what -> x.judge(2, what));
            x.go(1);
        }
        Check.tell(x, Edges.FOUR);
        x.give(1, 0);
        x.go(1);
        Check.due("given ones are tried by the other", 2, x.judge(0, 2));
        Check.due("not by the first", 0, x.judge(1, 2));
    }

    @Says("2 how many are TRIED by it so far, 3 of these WHOLE.")
    static void promise7_judge_mayTryAllTen() {
        JawBench x = Check.told("judge a 1 1;judge b 1 1;judge c 1 1;judge d 30 1;nut n 30 9 1;nut m 99 9 1;law wear 0;law slack 99;"
                + Edges.suits(0, 8, "d n 0") + Edges.suits(9, 9, "d m 0"));
        x.go(1);
        Check.due("all ten", 10, x.judge(3, 2));
        Check.due("nine whole", 9, x.judge(3, 3));
        Check.due("nobody else", 0, x.judge(0, 2));
        Check.due("nobody else", 0, x.judge(2, 3));
    }

    @Says("NONE: no such ones.")
    static void promise7_judge_isNoneWithoutSuchOnes() {
        JawBench x = Check.told(Edges.FOUR);
        for (int k = 0; k < 4; k++) {
            int fixed = k;
            Edges.only("judge of what " + k, -1, 0, 1, judge -> x.judge(judge, fixed));
        }
        for (int j = 0; j < 2; j++) {
            int fixed = j;
            Edges.only("what of judge " + j, -1, 0, 3, what -> x.judge(fixed, what));
        }
        JawBench four = Check.told("judge a 1 0;judge b 1 0;judge c 1 0;judge d 1 0;");
        Edges.only("four", -1, 0, 3, judge -> four.judge(judge, 0));
        Check.due("neither", -1, x.judge(2, 4));
    }

    // ---- 8: nut

    @Says("Of a NUT, what 0 HARD, 1 WORTH, 2 BITTER.")
    static void promise8_nut_isAsTold() {
        JawBench x = Check.told(Edges.FOUR + "nut e 0 0 0;nut f 99 99 9;");
        int[][] due = {{30, 21, 1}, {8, 11, 0}, {0, 0, 0}, {99, 99, 9}};
        for (int k = 0; k < 2; k++) {
            for (int n = 0; n < 4; n++) {
                int nut = n;
                Edges.all("nut " + n, due[n], what -> x.nut(nut, what));
            }
            x.stone(0, true);
            x.stone(1, true);
            x.go(2);
        }
    }

    @Says("NONE: no such ones.")
    static void promise8_nut_isNoneWithoutSuchOnes() {
        JawBench x = Check.told(Edges.FOUR);
        for (int k = 0; k < 3; k++) {
            int fixed = k;
            Edges.only("nut of what " + k, -1, 0, 1, nut -> x.nut(nut, fixed));
        }
        Edges.only("what", -1, 0, 2, what -> x.nut(1, what));
        JawBench six = Check.told("nut a 1 0 0;nut b 1 0 0;nut c 1 0 0;nut d 1 0 0;nut e 1 0 0;nut f 1 0 0;");
        Edges.only("six", -1, 0, 5, nut -> six.nut(nut, 0));
        Check.due("neither", -1, x.nut(2, 3));
    }

    // ---- 9: force

    @Says("FORCE of a JUDGE at a NUT: E of force (0 .. 999;")
    static void promise9_force_isCutTo0And999() {
        String[] e = {"0-1000*1000*1000*1000", "0-1000", "0-2", "0-1", "0", "1", "2", "998", "999", "1000", "9999", "1000*1000*1000*1000"};
        int[] due = {0, 0, 0, 0, 0, 1, 2, 998, 999, 999, 999, 999};
        for (int i = 0; i < e.length; i++) {
            Check.due("force " + e[i], due[i], Check.told(PAIR + "law force " + e[i] + ";").force(0, 0));
        }
        Check.due("beyond an int", 999, Check.told(PAIR + "law force 4096*1024*1024+5;").force(0, 0));
        Check.due("below an int", 0, Check.told(PAIR + "law force 0-4096*1024*1024+5;").force(0, 0));
    }

    @Says("JAW times LEVER by 50, cut, without, with an ERROR);")
    static void promise9_force_isByJawAndLeverWithout() {
        int[][] jawLeverDue = {{1, 1, 0}, {1, 49, 0}, {1, 50, 1}, {1, 99, 1}, {7, 50, 7}, {7, 57, 7}, {7, 58, 8}, {7, 99, 13},
            {99, 1, 1}, {99, 50, 99}, {99, 99, 196}, {50, 99, 99}};
        for (int[] row : jawLeverDue) {
            String text = "judge a " + row[0] + " 1;nut n 5 9 3;lever " + row[1] + ";";
            Check.due("jaw " + row[0] + " lever " + row[1], row[2], Check.told(text).force(0, 0));
            Check.due("with an error", row[2], Check.told(text + "law force 5/(load*0);").force(0, 0));
            Check.due("with another error", row[2], Check.told(text + "law force 1000*1000*1000*1000+1;").force(0, 0));
            Check.due("laws of other rules", row[2], Check.told(text + "law slack 3;law wear 4;").force(0, 0));
        }
    }

    @Says("half of it, cut, if that JUDGE has no TEETH.")
    static void promise9_force_isHalvedWithoutTeeth() {
        int[] whole = {0, 1, 2, 3, 13, 998, 999, 1000, 5000};
        int[] half = {0, 0, 1, 1, 6, 499, 499, 499, 499};
        for (int i = 0; i < whole.length; i++) {
            JawBench x = Check.told(PAIR + "law force " + whole[i] + ";");
            Check.due("with a tooth " + whole[i], Math.min(999, whole[i]), x.force(0, 0));
            Check.due("without teeth " + whole[i], half[i], x.force(1, 0));
        }
        JawBench x = Check.told("judge a 41 2;nut n 99 9 3;suit s a n 0;suit t a n 1;rest 3;");
        int[] due = {41, 41, 20, 41};
        for (int day = 0; day < 4; day++) {
            Check.due("teeth lost by day " + day, due[day], x.force(0, 0));
            x.go(1);
        }
        x = Check.told("judge a 7 0;nut n 5 9 3;lever 99;law force 1/0;");
        Check.due("half with an error", 6, x.force(0, 0));
    }

    @Says("FORCE now of a JUDGE at a NUT without a STONE (load as it is);")
    static void promise9_force_isWithoutAStone() {
        JawBench x = Check.told("judge a 7 1;nut n 5 9 3;nut m 6 9 4;suit s a n 0;suit t a n 0;law force hard*10+load*100+bitter;law wear 0;");
        Check.due("n", 53, x.force(0, 0));
        Check.due("m", 64, x.force(0, 1));
        x.stone(0, true);
        x.stone(1, true);
        Check.due("stones don't count", 53, x.force(0, 0));
        x.go(1);
        Check.due("none is tried on this day by then", 53, x.force(0, 0));
        x.ahead(9, 0);
        x.order(5);
        Check.due("nor by days thought of", 53, x.force(0, 0));
    }

    @Says("NONE: no such ones.")
    static void promise9_force_isNoneWithoutSuchOnes() {
        JawBench x = Check.told(PAIR + "nut k 1 1 1;");
        Edges.only("judge", -1, 0, 1, judge -> x.force(judge, 0));
        Edges.only("nut", -1, 0, 2, nut -> x.force(0, nut));
        Check.due("neither", -1, x.force(2, 3));
        Check.due("no nuts", -1, Check.told("judge a 1 1;").force(0, 0));
        Check.due("no judges", -1, Check.told("nut a 1 1 1;").force(0, 0));
    }

    // ---- 10: slack

    @Says("SLACK: E of slack (1 .. 99; 10 without, with an ERROR).")
    static void promise10_slack_isCutTo1And99() {
        String[] e = {"0-1000*1000*1000*1000", "0-1", "0", "1", "2", "98", "99", "100", "9999", "1000*1000*1000*1000",
            "1000*1000*1000*1000+1", "1/0", "0/1", "4096*1024*1024+5"};
        int[] due = {1, 1, 1, 1, 2, 98, 99, 99, 99, 99, 10, 10, 1, 99};
        for (int i = 0; i < e.length; i++) {
            JawBench x = Check.told(PAIR + "law slack " + e[i] + ";");
            Check.due("slack " + e[i], due[i], x.slack(0, 0));
            Check.due("no teeth don't matter", due[i], x.slack(1, 0));
        }
        Check.due("without", 10, Check.told(PAIR).slack(0, 0));
        Check.due("without, but other laws", 10, Check.told(PAIR + "law force 3;law wear 4;").slack(0, 0));
    }

    @Says("SLACK likewise;")
    static void promise10_slack_isWithoutAStone() {
        JawBench x = Check.told("judge a 7 1;nut n 5 9 3;nut m 6 9 4;suit s a n 0;law slack hard+load*50+day;law force 0;");
        Check.due("n", 5, x.slack(0, 0));
        Check.due("m", 6, x.slack(0, 1));
        x.stone(0, true);
        Check.due("a stone doesn't count", 5, x.slack(0, 0));
        x.go(1);
        Check.due("load is none on day 1", 6, x.slack(0, 0));
    }

    @Says("NONE: no such ones.")
    static void promise10_slack_isNoneWithoutSuchOnes() {
        JawBench x = Check.told(PAIR + "nut k 1 1 1;");
        Edges.only("judge", -1, 0, 1, judge -> x.slack(judge, 0));
        Edges.only("nut", -1, 0, 2, nut -> x.slack(0, nut));
        Check.due("no nuts", -1, Check.told("judge a 1 1;").slack(0, 0));
        Check.due("no judges", -1, Check.told("nut a 1 1 1;").slack(0, 0));
    }

    // ---- 11: verdict

    @Says("VERDICT: KEPT (0), if FORCE is below HARDNESS; else by how much it is more:"
            + " WHOLE (1), if that is below SLACK; HALVED (2), if it is below twice SLACK; else CRUMBS (3).")
    static void promise11_verdict_turnsAtHardnessSlackAndTwiceSlack() {
        for (int slack : new int[] {1, 2, 10, 98, 99}) {
            for (int hard : new int[] {0, 1, 50, 99}) {
                String text = "judge a 7 1;nut n " + hard + " 9 3;law slack " + slack + ";law force ";
                int[] force = {hard - 1, hard, hard + slack - 1, hard + slack, hard + 2 * slack - 1, hard + 2 * slack, 999};
                int[] due = {0, 1, 1, 2, 2, 3, 3};
                for (int i = 0; i < force.length; i++) {
                    if (force[i] >= 0) {
                        Check.due("force " + force[i] + " at " + hard + ", slack " + slack, due[i],
                                Check.told(text + force[i] + ";").verdict(0, 0));
                    }
                }
            }
        }
    }

    @Says("The VERDICT likewise;")
    static void promise11_verdict_isWithoutAStone() {
        JawBench x = Check.told("judge a 40 1;nut n 40 9 3;nut m 20 9 4;suit s a n 0;suit t a n 5;");
        Check.due("n", 1, x.verdict(0, 0));
        Check.due("m", 3, x.verdict(0, 1));
        x.stone(0, true);
        Check.due("a stone doesn't count", 1, x.verdict(0, 0));
        x.oil(25);
        Check.due("60 at 40", 3, x.verdict(0, 0));
        x.undo();
        x.go(1);
        Check.due("a tooth is lost: 20 at 40", 0, x.verdict(0, 0));
        Check.due("20 at 20", 1, x.verdict(0, 1));
    }

    @Says("NONE: no such ones.")
    static void promise11_verdict_isNoneWithoutSuchOnes() {
        JawBench x = Check.told(PAIR + "nut k 1 1 1;");
        Edges.only("judge", -1, 0, 1, judge -> x.verdict(judge, 0));
        Edges.only("nut", -1, 0, 2, nut -> x.verdict(0, nut));
        Check.due("no nuts", -1, Check.told("judge a 1 1;").verdict(0, 0));
        Check.due("no judges", -1, Check.told("nut a 1 1 1;").verdict(0, 0));
    }

    // ---- 12: law

    @Says("The law's E now of a JUDGE at a NUT without a STONE (what 0 force, 1 slack, 2 wear; load as it is).")
    static void promise12_law_isTheValueUncut() {
        JawBench x = Check.told("judge a 7 1;judge b 8 0;nut n 5 9 3;nut m 6 1 2;suit s a n 0;"
                + "law force 1000+jaw*100+hard*10+bitter;law slack 0-teeth-100;law wear day*1000+lever+load;");
        long[][] due = {{1753, -101, 50}, {1762, -101, 50}, {1853, -100, 50}, {1862, -100, 50}};
        for (int i = 0; i < 4; i++) {
            for (int what = 0; what < 3; what++) {
                Check.due("law " + what + " of " + i, due[i][what], x.law(what, i / 2, i % 2));
            }
        }
        x.stone(0, true);
        Check.due("a stone doesn't count", 1753, x.law(0, 0, 0));
        // Crumbs; wear 50 + 1 is cut to 9.
        x.go(2);
        Check.due("now: day 2, a lever of 41, no load", 2041, x.law(2, 0, 0));
    }

    @Says("NAMES: jaw, teeth: of the JUDGE (TEETH now); hard: HARDNESS; bitter: of the NUT; lever: LEVER;")
    static void promise12_law_seesNamesAsTheyAreNow() {
        String text = "judge a 7 2;judge b 99 9;nut n 60 9 3;nut m 0 1 9;suit s a n 0;lever 50;rest 2;law force ";
        String[] names = {"jaw", "teeth", "hard", "bitter", "lever", "load", "day"};
        int[] first = {7, 2, 60, 3, 50, 0, 0};
        int[] other = {99, 9, 0, 9, 50, 0, 0};
        for (int i = 0; i < names.length; i++) {
            JawBench x = Check.told(text + names[i] + ";");
            Check.due(names[i], first[i], x.law(0, 0, 0));
            Check.due(names[i] + " of others", other[i], x.law(0, 1, 1));
        }
        JawBench x = Check.told("judge a 7 2;nut n 60 9 3;suit s a n 0;rest 2;law force teeth;law slack lever;law wear day;");
        x.oil(9);
        Check.due("lever oiled", 59, x.law(1, 0, 0));
        x = Check.told("judge a 7 2;nut n 60 9 3;suit s a n 0;rest 2;law force teeth;law wear lever;");
        x.oil(9);
        x.go(1);
        Check.due("a tooth less", 1, x.law(0, 0, 0));
        Check.due("the lever kept", 59, x.law(2, 0, 0));
        x.go(1);
        Check.due("teeth as told", 2, x.law(0, 0, 0));
        Check.due("the lever as told", 50, x.law(2, 0, 0));
        x = Check.told("judge a 7 2;nut n 60 9 3;law force day;");
        x.go(99);
        Check.due("day", 99, x.law(0, 0, 0));
    }

    @Says("VALUES are longs; comparisons, and, or, not are 1 or 0")
    static void promise12_law_comparesLongs() {
        Check.value("4096*1024*1024+5", 4294967301L);
        Check.value("4096*1024*1024>5", 1);
        Check.value("4096*1024*1024=0", 0);
        Check.value("4096*1024*1024 and 1", 1);
        Check.value("not 4096*1024*1024", 0);
        Check.value("0-2000*1024*1024*2<0", 1);
        Check.value("(3>2)+(3>=3)+(3=3)+(2<>3)+(2<3)+(3<=3)", 6);
        Check.value("(2>3)+(2>=3)+(2=3)+(3<>3)+(3<2)+(4<=3)", 0);
        Check.value("(5 and 7)+(5 or 7)+(not 0)", 3);
        Check.value("(0 and 7)+(0 or 0)+(not 7)", 0);
    }

    @Says("(what isn't 0 is as 1, both sides are worked out),")
    static void promise12_law_worksOutBothSides() {
        Check.value("(0-1) and (0-1)", 1);
        Check.value("(0-5) or 0", 1);
        Check.value("0 or (0-5)", 1);
        Check.value("not (0-1)", 0);
        Check.value("2 and 1", 1);
        Check.value("2 and 4", 1);
        Check.value("0 and 1/0", Long.MIN_VALUE);
        Check.value("1/0 and 0", Long.MIN_VALUE);
        Check.value("1 or 1/0", Long.MIN_VALUE);
        Check.value("1/0 or 1", Long.MIN_VALUE);
        Check.value("not 1/0", Long.MIN_VALUE);
        Check.value("0*(1/0)", Long.MIN_VALUE);
        Check.value("1/0=1/0", Long.MIN_VALUE);
        Check.value("0 and 1000*1000*1000*1001", Long.MIN_VALUE);
    }

    @Says("/ is cut towards 0;")
    static void promise12_law_cutsTowards0() {
        Check.value("7/2", 3);
        Check.value("(0-7)/2", -3);
        Check.value("7/(0-2)", -3);
        Check.value("(0-7)/(0-2)", 3);
        Check.value("1/2", 0);
        Check.value("(0-1)/2", 0);
        Check.value("0/5", 0);
        Check.value("(0-6)/3", -2);
        Check.value("0-7/2", -3);
    }

    @Says("ERROR: / by 0, a value above 10 to the 12 or below 0 by more than that.")
    static void promise12_law_isAnErrorBeyond10To12() {
        String most = "1000*1000*1000*1000";
        Check.value("1/0", Long.MIN_VALUE);
        Check.value("0/0", Long.MIN_VALUE);
        Check.value("1/1", 1);
        Check.value("0/1", 0);
        Check.value("5/load", Long.MIN_VALUE);
        Check.value(most, 1000000000000L);
        Check.value(most + "-1", 999999999999L);
        Check.value(most + "+0", 1000000000000L);
        Check.value(most + "+1", Long.MIN_VALUE);
        Check.value(most + "+1-1", Long.MIN_VALUE);
        Check.value("0-" + most, -1000000000000L);
        Check.value("0-" + most + "-0", -1000000000000L);
        Check.value("0-" + most + "-1", Long.MIN_VALUE);
        Check.value("0-" + most + "-1+1", Long.MIN_VALUE);
        Check.value("1+" + most, Long.MIN_VALUE);
        Check.value("(0-1)*" + most, -1000000000000L);
        Check.value("1000*1000*1000*1001", Long.MIN_VALUE);
        Check.value("(0-1000)*1000*1000*1001", Long.MIN_VALUE);
        Check.value("1000*1000*1000*(0-1001)", Long.MIN_VALUE);
        Check.value("(0-1000)*1000*1000*(0-1000)", 1000000000000L);
        Check.value("(0-1000)*1000*1000*(0-1001)", Long.MIN_VALUE);
        // Products that would wrap round to something small.
        Check.value(most + "*(4096*1024*1024)", Long.MIN_VALUE);
        Check.value("(4096*1024*64)*(4096*1024*1024)", Long.MIN_VALUE);
        Check.value("(4096*1024*1024)*(4096*1024*1024)", Long.MIN_VALUE);
        Check.value("(" + most + ")*(" + most + ")", Long.MIN_VALUE);
        Check.value("(" + most + ")*0", 0);
        Check.value("0*(" + most + ")", 0);
        Check.value("(" + most + ")*1", 1000000000000L);
        Check.value("(1000*1000)*(1000*1000)", 1000000000000L);
        Check.value("(1000*1000)*(1000*1000+1)", Long.MIN_VALUE);
        Check.value("(" + most + ")/1", 1000000000000L);
        Check.value("(" + most + ")>(0-" + most + ")", 1);
    }

    @Says("Long.MIN_VALUE: an ERROR, no such law, no such ones.")
    static void promise12_law_isNoneWithoutSuchOnes() {
        JawBench x = Check.told(PAIR + "nut k 1 1 1;law force 3;law wear 5;");
        int[] whats = {Integer.MIN_VALUE, -1, 0, 1, 2, 3, Integer.MAX_VALUE};
        long[] due = {Long.MIN_VALUE, Long.MIN_VALUE, 3, Long.MIN_VALUE, 5, Long.MIN_VALUE, Long.MIN_VALUE};
        for (int i = 0; i < whats.length; i++) {
            Check.due("what " + whats[i], due[i], x.law(whats[i], 0, 0));
        }
        for (int k : new int[] {Integer.MIN_VALUE, -1, 2, Integer.MAX_VALUE}) {
            Check.due("judge " + k, Long.MIN_VALUE, x.law(0, k, 0));
        }
        for (int k : new int[] {Integer.MIN_VALUE, -1, 3, Integer.MAX_VALUE}) {
            Check.due("nut " + k, Long.MIN_VALUE, x.law(0, 0, k));
        }
        Check.due("the last ones", 3, x.law(0, 1, 2));
        Check.due("an error", Long.MIN_VALUE, Check.told(PAIR + "law slack 1/0;").law(1, 0, 0));
        for (int what = 0; what < 3; what++) {
            Check.due("not told " + what, Long.MIN_VALUE, Check.told(PAIR).law(what, 0, 0));
        }
        Check.tell(x, PAIR);
        Check.due("of the text ahead", Long.MIN_VALUE, x.law(0, 0, 0));
    }
}
