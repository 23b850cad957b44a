/** Promises 41 to 45: numbers that wait, the days told, images, counts. */
public final class ImagesTest {
    private static final int BAD = TurtleBet.BAD, NO = TurtleBet.NO, FULL = TurtleBet.FULL,
            NONE = TurtleBet.NONE;

    public static void main(String[] args) {
        tell();
        check();
        checkLastDay();
        checkWithoutTurtles();
        checkByImage();
        keepAndBack();
        backOfTexts();
        count();
        Due.end();
    }

    private static void tell() {
        TurtleBet b = new TurtleBet();
        for (int i = 1; i <= 60; i++) {
            Due.due("tell", b.tell(-i), i);
        }
        Due.due("sixty wait", b.tell(0), FULL);
        Due.due("60", b.count(9), 60);
        Due.due("no image", b.check(1), NO);
        Due.due("none wait then", b.count(9), 0);
        b.tell(1);
        Due.due("bad goes ahead", b.check(0), BAD);
        Due.due("none wait then", b.count(9), 0);
        b.keep();
        b.tell(1);
        Due.due("31", b.check(31), BAD);
        Due.due("none wait then", b.count(9), 0);
    }

    private static TurtleBet two() {
        TurtleBet b = new TurtleBet();
        b.turtle(0, 5);
        b.turtle(0, 6);
        b.set(0, 2, 1);
        b.keep();
        return b;
    }

    private static int checked(TurtleBet b, int n, int... told) {
        for (int v : told) {
            b.tell(v);
        }
        return b.check(n);
    }

    private static void check() {
        TurtleBet b = two();
        Due.due("1 day", checked(b, 1, 0, 12), 0);
        Due.due("2 days", checked(b, 2, 0, 12, 1, 23), 0);
        Due.due("none", checked(b, 2), 1);
        Due.due("the first", checked(b, 2, 1, 12, 1, 23), 1);
        Due.due("the second", checked(b, 2, 0, 13, 1, 23), 2);
        Due.due("the third", checked(b, 2, 0, 12, 0, 23), 3);
        Due.due("the fourth", checked(b, 2, 0, 12, 1, 22), 4);
        Due.due("missing", checked(b, 2, 0, 12, 1), 4);
        Due.due("missing", checked(b, 2, 0, 12), 3);
        Due.due("one too many", checked(b, 1, 0, 12, 1), 3);
        Due.due("several too many", checked(b, 1, 0, 12, 1, 23), 3);
        int[] all = new int[60];
        for (int day = 1; day <= 30; day++) {
            all[2 * day - 2] = day == 1 ? 0 : 1;
            all[2 * day - 1] = 1 + 11 * day;
        }
        Due.due("30 days", checked(b, 30, all), 0);
        Due.due("29 days", checked(b, 29, all), 59);
        Due.due("none wait", b.count(9), 0);
        Due.due("nothing changes", b.told(0, 2), 1);
        Due.due("nothing drawn", b.count(11), 1);
    }

    private static void checkLastDay() {
        TurtleBet b = new TurtleBet();
        for (int i = 0; i < 33; i++) {
            b.days(300);
        }
        b.days(97);
        b.turtle(0, 5);
        b.keep();
        Due.due("day 9997", b.count(2), 9997);
        Due.due("fewer", checked(b, 30, 0, 5, 0, 10), 0);
        Due.due("one too many", checked(b, 30, 0, 5, 0, 10, 0, 15), 5);
        b.days(2);
        Due.due("by the image", checked(b, 3, 0, 5, 0, 10), 0);
        b.keep();
        Due.due("no day left", checked(b, 3), 0);
        Due.due("no day left, one too many", checked(b, 3, 0), 1);
    }

    private static void checkWithoutTurtles() {
        TurtleBet b = new TurtleBet();
        Due.due("keep", b.keep(), 0);
        b.turtle(0, 1);
        Due.due("-1", checked(b, 2, -1, 0, -1, 0), 0);
        Due.due("not NONE", checked(b, 1, NONE, 0), 1);
    }

    private static void checkByImage() {
        TurtleBet b = two();
        Due.text(b, "pace 9");
        b.rule(1, 70);
        b.set(0, 5, 1);
        b.turtle(0, 20);
        b.seed(5);
        Due.due("by the image", checked(b, 2, 0, 12, 1, 23), 0);
        b.back();
        Due.text(b, "pace 9");
        b.keep();
        Due.due("by the image's text", checked(b, 2, 0, 19, 0, 37), 0);
    }

    private static void keepAndBack() {
        TurtleBet b = new TurtleBet();
        Due.due("no image", b.back(), NO);
        b.turtle(4, 5);
        b.turtle(0, 6);
        b.wager(3, 1, 40);
        b.days(3);
        b.rule(0, 50);
        b.rule(1, 11);
        b.rule(2, 400);
        b.set(1, 4, 1);
        b.set(1, 5, 1);
        int[] counts = new int[9];
        for (int what = 0; what < 9; what++) {
            counts[what] = b.count(what);
        }
        int z = b.count(11);
        int path = b.told(0, 2);
        Due.due("keep", b.keep(), 2);
        for (int again = 0; again < 2; again++) {
            b.turtle(0, 9);
            b.set(2, 4, 1);
            b.turns(0, 1);
            b.set(0, 1, 20);
            b.set(1, 4, 0);
            b.set(1, 5, 0);
            b.rule(0, 60);
            b.rule(1, 12);
            b.rule(2, 401);
            b.inherit(0, 3);
            b.wager(1, 2, 6);
            b.sheet(0, 0, 2);
            b.lay(0, 3, 17);
            b.tell(4);
            b.feed(0, 0, 0);
            b.days(5);
            b.set(2, 5, 1);
            Due.due("back", b.back(), 2);
            for (int what = 0; what < 9; what++) {
                Due.due("back: count " + what, b.count(what), counts[what]);
            }
            Due.due("z", b.count(11), z);
            int[] first = {4, 5, path, 3, 0, 0};
            int[] second = {0, 6, 18, 3, 1, 1};
            for (int what = 0; what < 6; what++) {
                Due.due("first " + what, b.told(0, what), first[what]);
                Due.due("second " + what, b.told(1, what), second[what]);
            }
            int[] wager = {3, 1, 40};
            for (int what = 0; what < 3; what++) {
                Due.due("wager " + what, b.wagerTold(0, what), wager[what]);
            }
            Due.due("the sheet stays", b.mark(0, 1, 1), 1);
            Due.due("the slot stays", b.rest(0, 10), 7);
            Due.due("numbers still wait", b.count(9), 1 + again);
            Due.due("the tape stays", b.count(10), 12 * (1 + again));
        }
        Due.due("a new one is fresh", b.turtle(2, 2), 2);
        for (int what = 2; what <= 7; what++) {
            Due.due("fresh " + what, b.told(2, what), 0);
        }
    }

    private static void backOfTexts() {
        TurtleBet b = new TurtleBet();
        b.turtle(0, 7);
        Due.text(b, "pace 2");
        Due.text(b, "fine 5");
        b.keep();
        Due.text(b, "pace 3");
        Due.text(b, "pay 1");
        Due.due("3", b.step(0, 0), 3);
        b.back();
        Due.due("texts", b.count(8), 2);
        Due.due("why pace", b.why(0), 0);
        Due.due("why pay", b.why(1), NONE);
        Due.due("2 again", b.step(0, 0), 2);
        Due.due("no text 2", b.textTold(2, 0), BAD);
        Due.due("a fault", Due.text(b, "fine 4 4"), -107);
        Due.due("its number", Due.text(b, "fine 6"), 2);
        Due.due("6", b.fine(0), 6);
        Due.due("its key", b.textTold(2, 0), 2);
        Due.due("its words", b.textTold(2, 1), 1);
        b.back();
        Due.due("another key", Due.text(b, "pace x"), 2);
        Due.due("its key", b.textTold(2, 0), 0);
        b.back();
        Due.due("5", b.fine(0), 5);
    }

    private static void count() {
        TurtleBet b = new TurtleBet();
        b.turtle(0, 1);
        b.turtle(0, 1);
        b.turtle(0, 1);
        b.set(0, 5, 1);
        b.set(1, 5, 1);
        b.set(0, 2, -50);
        b.set(1, 2, 9999);
        b.wager(0, 0, 1);
        b.days(4);
        b.rule(0, 77);
        b.rule(1, 78);
        b.rule(2, 79);
        Due.text(b, "pace 1");
        Due.text(b, "pace 1");
        b.tell(0);
        b.feed(0, 0, 0);
        b.trim(5);
        b.seed(-9);
        int[] due = {3, 2, 4, 77, 78, 79, 1, 9953, 2, 1, 5, -9};
        for (int what = 0; what < due.length; what++) {
            Due.due("count " + what, b.count(what), due[what]);
        }
        Due.due("count -1", b.count(-1), BAD);
        Due.due("count 12", b.count(12), BAD);
    }
}
