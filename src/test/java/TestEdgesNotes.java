/** Promises 31 to 34 at their boundaries: note, out, known, levers. */
public final class TestEdgesNotes {
    /** The force is the lever: kept below 30 (bits 7), whole from 30 (8), halved from 40 (16), crumbs from 50 on (992). */
    private static final String TEXT = "judge a 50 1;nut n 30 20 1;suit s a n 0;suit t a n 9;lever 33;law wear 0;";
    private static final int[] BITS = {7, 8, 16, 992};

    public static void main(String[] args) {
        Edges.run(TestEdgesNotes.class);
    }

    // ---- 31: note

    @Says({"NOTES, at most 24, numbered from 0 on: a SUIT had a VERDICT 0 .. 3, or not,", "A NOTE (VERDICT 0 .. 3): its number;"})
    static void promise31_note_isNumberedUpTo24() {
        JawBench x = Check.told(TEXT);
        for (int i = 0; i < 24; i++) {
            Check.due("so many", i, x.count(13));
            Check.due("note", i, x.note(i % 2, i % 4, i % 3 == 0));
        }
        Check.due("24", 24, x.count(13));
        for (int verdict = 0; verdict < 4; verdict++) {
            JawBench is = Check.told(TEXT);
            is.note(0, verdict, true);
            Check.due("it had " + verdict, BITS[verdict], is.levers());
            JawBench not = Check.told(TEXT);
            not.note(1, verdict, false);
            Check.due("it hadn't " + verdict, 1023 - BITS[verdict], not.levers());
        }
    }

    @Says("NONE: no such ones, or there are 24.")
    static void promise31_note_isNoneWithoutSuchOnes() {
        JawBench x = Check.told(TEXT);
        for (int verdict = 0; verdict < 4; verdict++) {
            int of = verdict;
            Edges.same("suit", s -> x.note(s, of, true), -1, Integer.MIN_VALUE, -1, 2, 3, 10, Integer.MAX_VALUE);
        }
        Edges.same("verdict", v -> x.note(0, v, true), -1, Integer.MIN_VALUE, -2, -1, 4, 5, Integer.MAX_VALUE);
        Check.due("none came", 0, x.count(13));
        Check.due("the first of all", 0, x.note(0, 0, true));
        Check.due("the last of all", 1, x.note(1, 3, false));
        for (int i = 2; i < 24; i++) {
            x.out(0);
        }
        Check.due("a 25th", -1, x.note(0, 0, true));
        Check.due("24 stay", 24, x.count(13));
        Check.due("no suits", -1, new JawBench().note(0, 0, true));
        x.go(99);
        Check.tell(x, TEXT);
        x.go(99);
        Check.due("a tried one may be noted", 0, x.note(0, 1, true));
    }

    // ---- 32: out

    @Says({"A note may strike one ahead of it (STRUCK).", "A note that strikes a NOTE: its number;"})
    static void promise32_out_strikesOneAhead() {
        JawBench x = Check.told(TEXT);
        x.note(0, 1, true);
        x.note(1, 2, false);
        Check.due("both", 8, x.levers());
        Check.due("out(0)", 2, x.out(0));
        Check.due("the second alone", 1023 - 16, x.levers());
        Check.due("out(1)", 3, x.out(1));
        Check.due("none", 1023, x.levers());
        Check.due("out of what is struck", 4, x.out(0));
        Check.due("none", 1023, x.levers());
        Check.due("five are there", 5, x.count(13));
    }

    @Says("NONE: no such NOTE, or there are 24.")
    static void promise32_out_isNoneWithoutSuchANote() {
        JawBench x = Check.told(TEXT);
        Edges.same("out of none", x::out, -1, Integer.MIN_VALUE, -1, 0, 1, 23, Integer.MAX_VALUE);
        x.note(0, 1, true);
        x.note(0, 1, true);
        Edges.same("out of two", x::out, -1, Integer.MIN_VALUE, -1, 2, 3, 23, 24, Integer.MAX_VALUE);
        Check.due("the last one", 2, x.out(1));
        Check.due("one that strikes", 3, x.out(2));
        for (int i = 4; i < 24; i++) {
            Check.due("out to 24", i, x.out(0));
        }
        Edges.same("a 25th", x::out, -1, 0, 1, 23);
        Check.due("24 stay", 24, x.count(13));
    }

    // ---- 33: known

    @Says("KNOWN by n from now on (-1: by all, also those to come): true;")
    static void promise33_known_isByAllOrSoMany() {
        JawBench x = Check.told(TEXT);
        x.note(0, 0, false);
        x.note(0, 3, false);
        x.note(0, 1, false);
        int[] n = {0, 1, 2, 3, -1};
        int[] due = {1023, 1016, 24, 16, 16};
        int[] by = {0, 1, 2, 3, 3};
        for (int i = 0; i < n.length; i++) {
            Check.due("known(" + n[i] + ")", true, x.known(n[i]));
            Check.due("levers by " + n[i], due[i], x.levers());
            Check.due("by how many", by[i], x.count(14));
        }
        x.known(3);
        x.note(0, 2, false);
        Check.due("not by one to come", 16, x.levers());
        Check.due("by three still", 3, x.count(14));
        x.known(-1);
        Check.due("by all", 0, x.levers());
        x.out(3);
        Check.due("by those to come, too", 16, x.levers());
        Check.due("by five", 5, x.count(14));
    }

    @Says("false: no such n.")
    static void promise33_known_isRefused() {
        JawBench x = Check.told(TEXT);
        Edges.same("of none", n -> x.known(n) ? 1 : 0, 0, Integer.MIN_VALUE, -2, 1, 24, Integer.MAX_VALUE);
        Edges.same("of none", n -> x.known(n) ? 1 : 0, 1, 0, -1);
        x.note(0, 1, true);
        x.note(0, 1, true);
        x.known(1);
        Edges.same("of two", n -> x.known(n) ? 1 : 0, 0, Integer.MIN_VALUE, -2, 3, 4, 24, Integer.MAX_VALUE);
        Check.due("as it was", 1, x.count(14));
        Check.due("all two", true, x.known(2));
        for (int i = 2; i < 24; i++) {
            x.note(0, 1, true);
        }
        Edges.same("of 24", n -> x.known(n) ? 1 : 0, 0, 25, 26);
        Edges.same("of 24", n -> x.known(n) ? 1 : 0, 1, 23, 24);
    }

    @Says({"KNOWN by n (all at first): the first n that aren't STRUCK by one of these",
        "(what strikes may be STRUCK: then it doesn't count; asked from the last one on)."})
    static void promise33_known_leavesOutWhatIsStruckByTheFirstN() {
        JawBench x = Check.told(TEXT);
        x.note(0, 1, true);
        int[] due = new int[24];
        due[0] = 1023;
        due[1] = 8;
        // Each one strikes the one ahead of it: struck and not struck by turns.
        for (int i = 2; i < 24; i++) {
            x.out(i - 2);
            due[i] = i % 2 == 0 ? 1023 : 8;
        }
        Check.due("all at first", 23, x.count(14));
        Check.due("all at first", 8, x.levers());
        for (int n = 0; n < 24; n++) {
            x.known(n);
            Check.due("by the first " + n, due[n], x.levers());
        }
        JawBench y = Check.told(TEXT);
        y.note(0, 1, true);
        y.out(0);
        y.out(0);
        y.out(1);
        Check.due("struck once more", 1023, y.levers());
        y.out(2);
        Check.due("by neither", 8, y.levers());
        y.known(4);
        Check.due("by the second of them", 1023, y.levers());
        y.out(4);
        y.known(6);
        Check.due("what struck it is struck", 1023, y.levers());
    }

    // ---- 34: levers

    @Says({"LEVERS: 5, 15, .. 95 (bits 0 .. 9) that LEVER may have been told, in place of its own", "by which all KNOWN ones are so.", "LEVERS (bits)."})
    static void promise34_levers_areFrom5To95() {
        for (int lever = 0; lever <= 100; lever++) {
            JawBench x = Check.told("judge a 1 1;nut n 30 20 1;suit s a n 0;law slack 1;law force (lever=" + lever + ")*30;");
            x.note(0, 1, true);
            Check.due("whole by " + lever, lever % 10 == 5 ? 1 << lever / 10 : 0, x.levers());
        }
        for (int own : new int[] {1, 35, 99}) {
            JawBench x = Check.told("judge a 50 1;nut n 30 20 1;suit s a n 0;lever " + own + ";");
            x.note(0, 1, true);
            Check.due("its own is " + own, 8, x.levers());
        }
        Check.due("no notes", 1023, Check.told(TEXT).levers());
        Check.due("no suits", 1023, new JawBench().levers());
        JawBench x = Check.told(TEXT);
        x.note(0, 0, true);
        x.note(1, 1, true);
        Check.due("all must be so", 0, x.levers());
    }

    @Says("(behind vacations, too),")
    static void promise34_levers_holdBehindVacations() {
        String text = "judge a 50 1;nut n 30 20 1;suit s a n 0;suit t a n 1;suit u a n 2;law wear 9;lever 99;";
        // 35 is whole; worn once from 45 it is 36, worn twice from 55 it is 37.
        int[][] due = {{8, 16, 32}, {8, 8, 8}, {8, 16, 8}, {8, 16, 32}};
        for (int rest = 0; rest < due.length; rest++) {
            for (int suit = 0; suit < 3; suit++) {
                JawBench x = Check.told(text + "rest " + rest + ";");
                x.note(suit, 1, true);
                Check.due("rest " + rest + " suit " + suit, due[rest][suit], x.levers());
            }
        }
    }

    @Says("TRIED on its told DAY (from the TEXT on, nothing done by call).")
    static void promise34_levers_areFromTheTextOn() {
        JawBench x = Check.told("judge a 50 1;judge b 1 0;nut n 30 20 1;suit s a n 1;suit t a n 99;law force jaw*lever/50+(day=2)*100;law wear 0;");
        x.note(0, 1, true);
        Check.due("at first", 8, x.levers());
        x.stone(0, true);
        x.put(0, 2);
        x.give(1, 1);
        x.oil(20);
        Check.due("nothing done by call", 8, x.levers());
        x.go(3);
        Check.due("at any time", 8, x.levers());
        x.keep();
        x.note(1, 1, true);
        Check.due("day 99, too", 8, x.levers());
        x.note(1, 2, true);
        Check.due("another one of day 99", 0, x.levers());
        x.back();
        Check.due("notes are in no image", 0, x.levers());
        x.known(1);
        Check.due("nothing is tried by it", 3, x.count(4));
        JawBench tooth = Check.told("judge a 50 1;nut n 99 20 1;nut m 30 20 1;suit s a n 0;suit t a m 1;law wear 0;");
        tooth.note(1, 1, true);
        // The tooth is lost up to 79: 65 by 2 is 32, 75 by 2 is 37; 85 and 95 keep it and are crumbs.
        Check.due("a day ahead counts", 1 << 6 | 1 << 7, tooth.levers());
    }
}
