/** Promises 31 to 34: note, out, known, levers. */
public final class TestNotes {
    // Whole from 30 on (jaw 50: the force is the lever), halved from 40, crumbs from 50 on.
    private static final String TEXT = "judge a 50 1;nut n 30 20 1;suit s a n 0;suit t a n 9;lever 33;law wear 0;";

    public static void main(String[] args) {
        notes();
        striking();
        known();
        levers();
        fromTheText();
        Check.end();
    }

    private static void notes() {
        JawBench x = Check.told(TEXT);
        Check.due("suit 2", -1, x.note(2, 0, true));
        Check.due("suit -1", -1, x.note(-1, 0, true));
        Check.due("verdict 4", -1, x.note(0, 4, true));
        Check.due("verdict -1", -1, x.note(0, -1, true));
        Check.due("out of none", -1, x.out(0));
        for (int i = 0; i < 24; i++) {
            Check.due("note " + i, i, i % 2 == 0 ? x.note(0, 3, false) : x.out(i - 1));
        }
        Check.due("a 25th", -1, x.note(0, 0, true));
        Check.due("a 25th that strikes", -1, x.out(0));
        Check.due("notes", 24, x.count(13));
        Check.due("all are struck", 1023, x.levers());
    }

    private static void striking() {
        JawBench x = Check.told(TEXT);
        x.note(0, 1, true);
        Check.due("35 alone is whole", 1 << 3, x.levers());
        Check.due("out(0)", 1, x.out(0));
        Check.due("struck", 1023, x.levers());
        Check.due("out(1)", 2, x.out(1));
        Check.due("what strikes is struck", 1 << 3, x.levers());
        Check.due("out(2)", 3, x.out(2));
        Check.due("and that one too", 1023, x.levers());
        Check.due("out(0) again", 4, x.out(0));
        Check.due("out(3)", 5, x.out(3));
        Check.due("still struck by 4", 1023, x.levers());
        Check.due("no such note", -1, x.out(6));
        Check.due("no such note", -1, x.out(-1));
    }

    private static void known() {
        JawBench x = Check.told(TEXT);
        Check.due("known(1) of none", false, x.known(1));
        Check.due("known(0) of none", true, x.known(0));
        x.note(0, 1, true);
        Check.due("by none of them", 1023, x.levers());
        Check.due("by how many", 0, x.count(14));
        Check.due("known(-1)", true, x.known(-1));
        Check.due("by all", 1 << 3, x.levers());
        Check.due("known(-2)", false, x.known(-2));
        Check.due("by how many, all", 1, x.count(14));
        x.out(0);
        Check.due("also those to come", 1023, x.levers());
        Check.due("by how many, all", 2, x.count(14));
        Check.due("known(1)", true, x.known(1));
        Check.due("what strikes isn't one of the first", 1 << 3, x.levers());
        x.note(0, 2, true);
        Check.due("nor one that comes", 1 << 3, x.levers());
        Check.due("by how many still", 1, x.count(14));
        Check.due("known(4) of 3", false, x.known(4));
        Check.due("known(3) of 3", true, x.known(3));
        Check.due("halved by 45", 1 << 4, x.levers());
        Check.due("by how many", 3, x.count(14));
    }

    private static void levers() {
        int[] due = {7, 8, 16, 1023 - 31};
        for (int verdict = 0; verdict < 4; verdict++) {
            JawBench x = Check.told(TEXT);
            x.note(0, verdict, true);
            Check.due("levers of " + verdict, due[verdict], x.levers());
            x = Check.told(TEXT);
            x.note(1, verdict, false);
            Check.due("levers not of " + verdict, 1023 - due[verdict], x.levers());
        }
        JawBench x = Check.told(TEXT);
        x.note(0, 0, false);
        x.note(0, 3, false);
        Check.due("both", 8 + 16, x.levers());
        x.note(0, 2, true);
        x.note(0, 1, true);
        Check.due("none fits", 0, x.levers());
        // Worn by 9 each: the second one sees the vacation's lever, which is the one in question.
        x = Check.told("judge a 50 1;nut n 30 20 1;suit s a n 0;suit t a n 1;rest 1;law wear 9;lever 99;");
        x.note(1, 1, true);
        Check.due("behind a vacation", 8, x.levers());
        x = Check.told("judge a 50 1;nut n 30 20 1;suit s a n 0;suit t a n 1;law wear 9;lever 99;");
        x.note(1, 1, true);
        Check.due("worn", 16, x.levers());
    }

    private static void fromTheText() {
        JawBench x = Check.told(TEXT);
        x.note(0, 1, true);
        x.stone(0, true);
        x.put(0, 50);
        x.oil(20);
        Check.due("nothing done by call", 8, x.levers());
        x.go(99);
        Check.due("at any time", 8, x.levers());
        x = Check.told("judge a 50 1;nut n 30 20 1;suit s a n 99;");
        x.note(0, 0, true);
        Check.due("on the last day that may be told", 7, x.levers());
    }
}
