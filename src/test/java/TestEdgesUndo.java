/** Promises 37 to 40 at their boundaries: undo, keep, back, count. */
public final class TestEdgesUndo {
    public static void main(String[] args) {
        Edges.run(TestEdgesUndo.class);
    }

    // ---- 37: undo

    @Says({"Giving, STONES, putting off, oiling by call can be undone, the latest first", "The latest is undone: how many are left;"})
    static void promise37_undo_takesTheLatestBack() {
        JawBench x = Check.told(Edges.FOUR);
        x.give(0, 1);
        x.stone(0, true);
        x.put(0, 9999);
        x.oil(49);
        x.stone(0, false);
        x.give(0, 0);
        int[][] judgeDayStoneLever = {{1, 9999, 0, 99}, {1, 9999, 1, 99}, {1, 9999, 1, 50}, {1, 0, 1, 50}, {1, 0, 0, 50}, {0, 0, 0, 50}};
        for (int i = 0; i < 6; i++) {
            Check.due("can be undone", 6 - i, x.count(15));
            Check.due("left", 5 - i, x.undo());
            Check.due("judge", judgeDayStoneLever[i][0], Check.suit(x, 0, 0));
            Check.due("day", judgeDayStoneLever[i][1], Check.suit(x, 0, 2));
            Check.due("stone", judgeDayStoneLever[i][2], Check.suit(x, 0, 3));
            Check.due("lever", judgeDayStoneLever[i][3], x.count(5));
        }
        Check.due("as told: gain", 21, x.ahead(9, 4));
        x.stone(0, true);
        x.stone(3, true);
        x.undo();
        Check.due("the one alone", 1, Check.suit(x, 0, 3));
        Check.due("not the other", 0, Check.suit(x, 3, 3));
    }

    @Says("NONE: none.")
    static void promise37_undo_isNoneWithout() {
        Check.due("new", -1, new JawBench().undo());
        JawBench x = Check.told(Edges.FOUR);
        Check.due("told", -1, x.undo());
        x.give(0, 0);
        x.give(9, 0);
        x.stone(0, false);
        x.put(0, 0);
        x.put(0, 10000);
        x.oil(50);
        x.oil(0);
        x.note(0, 0, true);
        x.known(0);
        x.keep();
        Check.due("neither refused ones nor others", -1, x.undo());
        x.oil(1);
        Check.due("one", 0, x.undo());
        Check.due("none is left", -1, x.undo());
        Check.due("and none again", -1, x.undo());
        Check.due("an undone one isn't done again", 50, x.count(5));
    }

    @Says("(20 at most),")
    static void promise37_undo_holdsTwenty() {
        for (int deeds : new int[] {19, 20, 21, 22, 40, 49}) {
            JawBench x = Check.told("lever 50;");
            for (int i = 1; i <= deeds; i++) {
                Check.due("oil", 50 + i, x.oil(1));
                Check.due("can be undone", Math.min(i, 20), x.count(15));
            }
            int held = Math.min(deeds, 20);
            for (int left = held - 1; left >= 0; left--) {
                Check.due("left", left, x.undo());
            }
            Check.due("no more", -1, x.undo());
            Check.due("those ahead of them stay", 50 + deeds - held, x.count(5));
        }
        JawBench x = Check.told(Edges.FOUR);
        x.put(2, 5);
        x.give(3, 1);
        for (int i = 0; i < 19; i++) {
            x.stone(0, i % 2 == 0);
        }
        for (int i = 0; i < 20; i++) {
            x.undo();
        }
        Check.due("the 21st ahead stays", 5, Check.suit(x, 2, 2));
        Check.due("the 20th is undone", 0, Check.suit(x, 3, 0));
        Check.due("then a new one", 51, x.oil(1));
        Check.due("alone", 0, x.undo());
    }

    @Says("if no DAY went by since.")
    static void promise37_undo_endsWithADay() {
        JawBench x = Check.told(Edges.FOUR);
        x.oil(1);
        x.put(3, 7);
        x.go(0);
        Check.due("none went by", 2, x.count(15));
        x.go(-1);
        x.go(100);
        Check.due("nor by what was refused", 2, x.count(15));
        x.ahead(9, 0);
        x.nextTooth();
        Check.due("nor by what was thought of", 1, x.undo());
        x.go(1);
        Check.due("one went by", 0, x.count(15));
        Check.due("none", -1, x.undo());
        x.oil(1);
        Check.due("since then", 0, x.undo());
        x.oil(1);
        x.go(99);
        Check.due("99 went by", -1, x.undo());
    }

    // ---- 38, 39: keep, back

    @Says({"An IMAGE keeps all but NOTES.", "All (but NOTES) is as in the IMAGE"})
    static void promise39_back_bringsAllButNotes() {
        JawBench x = Check.told("judge a 10 2;judge b 50 2;nut n 31 9 3;nut m 45 9 3;suit s a n 0;suit t b m 0;suit u b m 1;suit v b m 2;rest 9;");
        x.go(1);
        x.stone(2, true);
        x.put(3, 4);
        x.give(3, 0);
        x.oil(3);
        x.note(0, 0, true);
        Check.due("keep", 1, x.keep());
        int[] counts = {2, 2, 4, 0, 1, 52, 1, 1, 0, 0, 9, 0, 1, 1, 1, 0};
        x.note(0, 1, true);
        x.stone(2, false);
        x.put(3, 2);
        x.give(3, 1);
        x.oil(9);
        x.go(50);
        Check.due("back", 1, x.back());
        counts[13] = 2;
        counts[14] = 2;
        Edges.all("count", counts, x::count);
        Edges.all("teeth", new int[] {1, 2}, j -> x.judge(j, 1));
        Edges.all("judges", new int[] {0, 1, 1, 0}, s -> Check.suit(x, s, 0));
        Edges.all("days", new int[] {0, 0, 1, 4}, s -> Check.suit(x, s, 2));
        Edges.all("stones", new int[] {0, 0, 1, 0}, s -> Check.suit(x, s, 3));
        Edges.all("verdicts", new int[] {0, 1, -1, -1}, s -> Check.suit(x, s, 4));
        Check.due("and goes on from there", 2, x.go(1));
    }

    @Says("An IMAGE is kept (in place of one ahead): which DAY it is.")
    static void promise38_keep_isInPlaceOfOneAhead() {
        JawBench x = Check.told(Edges.FOUR);
        Check.due("day 0", 0, x.keep());
        x.go(1);
        Check.due("day 1", 1, x.keep());
        x.go(98);
        Check.due("back to 1", 1, x.back());
        Check.due("not to 0", 1, x.back());
        x.oil(5);
        Check.due("the same day again", 1, x.keep());
        x.undo();
        Check.due("back", 1, x.back());
        Check.due("with its oil", 53, x.count(5));
        Check.due("of a new object", 0, new JawBench().keep());
    }

    @Says("(nothing to undo then): which DAY it is;")
    static void promise39_back_leavesNothingToUndo() {
        JawBench x = Check.told(Edges.FOUR);
        x.oil(1);
        x.oil(1);
        Check.due("keep", 0, x.keep());
        Check.due("what can be undone stays", 2, x.count(15));
        x.oil(1);
        Check.due("back", 0, x.back());
        Check.due("nothing to undo", 0, x.count(15));
        Check.due("nothing to undo", -1, x.undo());
        Check.due("the lever of the image", 52, x.count(5));
        x.oil(1);
        Check.due("one then", 0, x.undo());
        x.go(9);
        Check.due("from behind", 0, x.back());
        Check.due("and again", 0, x.back());
    }

    @Says("NONE: there is none.")
    static void promise39_back_isNoneWithout() {
        Check.due("new", -1, new JawBench().back());
        JawBench x = Check.told(Edges.FOUR);
        x.oil(1);
        x.go(1);
        x.oil(2);
        Check.due("none", -1, x.back());
        Check.due("nothing is changed", 51, x.count(5));
        Check.due("undo stays", 0, x.undo());
        x.keep();
        Check.due("one", 1, x.back());
        Check.tell(x, "#");
        Check.due("a fault leaves it", 1, x.back());
        x.text(-1);
        Check.due("and so does -2", 1, x.back());
        x.text(0);
        Check.due("a text doesn't", -1, x.back());
    }

    // ---- 40: count

    @Says("0 JUDGES, 1 NUTS, 2 SUITS, 3 KNOTS, 4 the DAY, 5 LEVER,")
    static void promise40_count_isOfWhatIsTold() {
        JawBench x = Check.told("judge a 1 0;judge b 1 0;judge c 1 0;judge d 1 0;"
                + "nut a 1 0 0;nut b 1 0 0;nut c 1 0 0;nut d 1 0 0;nut e 1 0 0;nut f 1 0 0;" + Edges.suits(0, 9, "a a 99")
                + "law force " + "1+".repeat(31) + "1;law wear 1;lever 99;");
        Edges.all("as many as there can be", new int[] {4, 6, 10, 64, 0, 99}, x::count);
        for (int i = 0; i < 99; i++) {
            x.go(99);
        }
        x.go(99);
        Check.due("the last day", 9900, x.count(4));
        Edges.all("none", new int[] {0, 0, 0, 0, 0, 50}, new JawBench()::count);
    }

    @Says({"6 KEPT, 7 WHOLE, 8 HALVED, 9 CRUMBS, 10 GAIN, 11 the MOUSE's, 12 TEETH lost in all,",
        "GAIN: WORTH of a WHOLE one, half of it, cut, of a HALVED one, else 0; the MOUSE has WORTH of CRUMBS."})
    static void promise40_count_isOfWhatCame() {
        // 50 at 71 (a tooth), 50, 40, 30, 0 with a slack of 10: kept, whole, halved, crumbs, crumbs.
        JawBench x = Check.told("judge a 50 9;nut n 71 99 1;nut m 50 99 1;nut k 40 99 1;nut e 30 99 1;nut f 0 7 1;"
                + "suit s a n 0;suit t a m 1;suit u a k 2;suit v a e 3;suit w a f 4;suit y a k 5;law wear 0;");
        int[][] due = {{0, 0, 0, 0, 0, 0, 0}, {1, 0, 0, 0, 0, 0, 1}, {1, 1, 0, 0, 99, 0, 1}, {1, 1, 1, 0, 148, 0, 1},
            {1, 1, 1, 1, 148, 99, 1}, {1, 1, 1, 2, 148, 106, 1}, {1, 1, 2, 2, 197, 106, 1}};
        for (int[] row : due) {
            Edges.all("on day " + x.count(4), row, what -> x.count(6 + what));
            x.go(1);
        }
        JawBench full = Check.told("judge a 50 9;nut n 0 99 1;nut m 50 99 1;law wear 0;" + Edges.suits(0, 4, "a n 0") + Edges.suits(5, 9, "a m 0"));
        full.go(1);
        Edges.all("all ten", new int[] {0, 5, 0, 5, 495, 495, 0}, what -> full.count(6 + what));
        JawBench none = Check.told("judge a 50 9;nut n 50 0 1;nut m 40 1 1;suit s a n 0;suit t a m 0;law wear 0;");
        none.go(1);
        Check.due("half of 1 is 0", 0, none.count(10));
        Check.due("the mouse has none of these", 0, none.count(11));
        JawBench teeth = Check.told("judge a 10 1;judge b 10 2;nut n 99 9 1;suit s a n 0;suit t b n 0;suit u a n 0;suit v a n 1;suit w b n 2;rest 1;");
        int[] lost = {0, 2, 3, 4, 4};
        for (int day = 0; day < lost.length; day++) {
            Check.due("teeth lost by day " + day, lost[day], teeth.count(12));
            teeth.go(1);
        }
    }

    @Says("13 NOTES, 14 by how many it is KNOWN, 15 what can be undone.")
    static void promise40_count_isOfNotesAndDeeds() {
        JawBench x = Check.told(Edges.FOUR);
        x.note(0, 0, true);
        x.note(1, 1, false);
        x.out(0);
        Edges.all("all", new int[] {3, 3, 0}, what -> x.count(13 + what));
        x.known(0);
        x.oil(1);
        Edges.all("none", new int[] {3, 0, 1}, what -> x.count(13 + what));
        x.known(2);
        x.oil(1);
        Edges.all("two", new int[] {3, 2, 2}, what -> x.count(13 + what));
    }

    @Says("NONE for another what.")
    static void promise40_count_isNoneForAnotherWhat() {
        Edges.only("new", -1, 0, 15, new JawBench()::count);
        Edges.only("told", -1, 0, 15, Check.told(Edges.FOUR)::count);
    }
}
