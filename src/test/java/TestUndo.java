/** Promises 37 to 40: undo, keep, back, count. */
public final class TestUndo {
    public static void main(String[] args) {
        undoing();
        twentyAtMost();
        daysEndIt();
        images();
        counts();
        Check.end();
    }

    private static void undoing() {
        JawBench x = Check.told(TestCourt.FOUR);
        Check.due("nothing", -1, x.undo());
        x.give(0, 1);
        x.stone(0, true);
        x.put(0, 7);
        x.oil(5);
        x.stone(0, false);
        Check.due("five", 5, x.count(15));
        Check.due("the stone is out", 0, Check.suit(x, 0, 3));
        Check.due("undo", 4, x.undo());
        Check.due("the stone is in", 1, Check.suit(x, 0, 3));
        Check.due("undo", 3, x.undo());
        Check.due("the lever", 50, x.count(5));
        Check.due("undo", 2, x.undo());
        Check.due("the day", 0, Check.suit(x, 0, 2));
        Check.due("undo", 1, x.undo());
        Check.due("the stone is out again", 0, Check.suit(x, 0, 3));
        Check.due("before gus still", 1, Check.suit(x, 0, 0));
        Check.due("undo", 0, x.undo());
        Check.due("before ned", 0, Check.suit(x, 0, 0));
        Check.due("nothing more", -1, x.undo());
        x.give(0, 0);
        x.stone(0, false);
        x.put(0, 0);
        x.oil(99);
        Check.due("what was refused can't be undone", -1, x.undo());
    }

    private static void twentyAtMost() {
        JawBench x = Check.told(TestCourt.FOUR);
        for (int i = 0; i < 25; i++) {
            x.oil(1);
        }
        Check.due("twenty", 20, x.count(15));
        Check.due("75", 75, x.count(5));
        for (int i = 19; i >= 0; i--) {
            Check.due("left " + i, i, x.undo());
        }
        Check.due("no more", -1, x.undo());
        Check.due("the first five stay", 55, x.count(5));
        x.put(2, 3);
        for (int i = 0; i < 19; i++) {
            x.stone(1, i % 2 == 0);
        }
        x.give(3, 1);
        Check.due("the oldest is forgotten", 20, x.count(15));
        for (int i = 0; i < 20; i++) {
            x.undo();
        }
        Check.due("put off still", 3, Check.suit(x, 2, 2));
        Check.due("given back", 0, Check.suit(x, 3, 0));
        Check.due("no stone", 0, Check.suit(x, 1, 3));
        // Each suit in turn is put to other days: behind the oldest, each one's own day comes back.
        x = Check.told(TestCourt.FOUR);
        for (int i = 0; i < 23; i++) {
            x.put(i % 4, 10 + i);
        }
        for (int i = 22; i >= 3; i--) {
            int before = i >= 4 ? 10 + i - 4 : 1;
            Check.due("left of puts", i - 3, x.undo());
            Check.due("day again of " + i % 4, before, Check.suit(x, i % 4, 2));
        }
        for (int i = 0; i < 3; i++) {
            Check.due("the first three stay", 10 + i, Check.suit(x, i, 2));
        }
    }

    private static void daysEndIt() {
        JawBench x = Check.told(TestCourt.FOUR);
        x.oil(5);
        x.go(0);
        Check.due("no day went by", 1, x.count(15));
        x.go(100);
        Check.due("nor with a refused one", 1, x.count(15));
        x.go(1);
        Check.due("a day went by", 0, x.count(15));
        Check.due("nothing to undo", -1, x.undo());
        x.oil(1);
        Check.due("anew", 0, x.undo());
    }

    private static void images() {
        JawBench x = Check.told("judge a 10 2;judge b 50 2;nut n 30 9 3;suit s a n 0;suit t b n 1;suit u b n 2;rest 2;");
        Check.due("none", -1, x.back());
        x.go(1);
        x.stone(1, true);
        x.put(2, 4);
        x.oil(3);
        Check.due("keep", 1, x.keep());
        Check.due("what can be undone stays by keep", 3, x.count(15));
        x.note(0, 0, true);
        x.give(2, 0);
        x.stone(1, false);
        x.put(1, 5);
        x.go(6);
        Check.due("back", 1, x.back());
        Check.due("day", 1, x.count(4));
        Check.due("lever", 53, x.count(5));
        Check.due("kept", 1, x.count(6));
        Check.due("whole", 0, x.count(7));
        Check.due("teeth lost", 1, x.count(12));
        Check.due("teeth", 1, x.judge(0, 1));
        Check.due("judge", 1, Check.suit(x, 2, 0));
        Check.due("stone", 1, Check.suit(x, 1, 3));
        Check.due("day of t", 1, Check.suit(x, 1, 2));
        Check.due("day of u", 4, Check.suit(x, 2, 2));
        Check.due("t isn't tried", -1, Check.suit(x, 1, 4));
        Check.due("nothing to undo", -1, x.undo());
        Check.due("notes stay", 1, x.count(13));
        x.go(1);
        Check.due("back again", 1, x.back());
        x.go(2);
        Check.due("in place of one ahead", 3, x.keep());
        x.go(1);
        Check.due("back to that", 3, x.back());
        x.oil(1);
        Check.tell(x, "lever 0;");
        Check.due("a fault leaves the image", 3, x.back());
        x.text(0);
        Check.due("a text has none", -1, x.back());
    }

    private static void counts() {
        JawBench x = Check.told(TestCourt.FOUR + "nut k 99 7 1;suit e ned k 1;law wear 2*1;");
        x.note(0, 0, true);
        x.note(1, 0, true);
        x.known(1);
        x.go(2);
        x.oil(4);
        // ned halves wal (10), gus makes haz whole (11); gus keeps wal, ned crumbs haz (11), ned loses a tooth at k.
        int[] due = {2, 3, 5, 3, 2, 48, 2, 1, 1, 1, 21, 11, 1, 2, 1, 1};
        for (int what = 0; what < due.length; what++) {
            Check.due("count(" + what + ")", due[what], x.count(what));
        }
        Check.due("count(16)", -1, x.count(16));
        Check.due("count(-1)", -1, x.count(-1));
    }
}
