/** Promises 41 to 45, sentence by sentence: at each bound, and on either side of it. */
public final class EdgesOfRowsTest {
    private static final int BAD = TurtleBet.BAD, NO = TurtleBet.NO, FULL = TurtleBet.FULL, NONE = TurtleBet.NONE;

    public static void main(String[] args) {
        tells();
        checkBounds();
        checkWithoutImage();
        firstThatIsNot();
        missingOnes();
        tooMany();
        fewerDays();
        leadsWithoutTurtles();
        checkAsDaysGo();
        keeps();
        backAgainAndAgain();
        backKeepsTheRest();
        backOfEmpty();
        keptAnew();
        backWithTexts();
        counts();
        Due.end();
    }

    /** "One more number waits: how many. FULL: 60 wait." */
    private static void tells() {
        TurtleBet b = new TurtleBet();
        int[] any = {0, -1, Integer.MAX_VALUE, Integer.MIN_VALUE, NONE, BAD};
        for (int i = 1; i <= 60; i++) {
            Due.due("tell", b.tell(any[i % any.length]), i);
            Due.due("how many", b.count(9), i);
        }
        Due.due("the sixty-first", b.tell(0), FULL);
        Due.due("sixty", b.count(9), 60);
        Due.due("the sixty-first again", b.tell(0), FULL);
        b.check(1);
        Due.due("none do then", b.count(9), 0);
        Due.due("the first again", b.tell(5), 1);
    }

    /** One turtle of pace 5, its image kept: behind each day 0 leads, and the paths are 5 more. */
    private static TurtleBet one() {
        TurtleBet b = new TurtleBet();
        b.turtle(0, 5);
        b.keep();
        return b;
    }

    /** The days told of one(): so many numbers of them, one of which may be told wrong. */
    private static int checked(TurtleBet b, int n, int many, int wrong) {
        for (int i = 0; i < many; i++) {
            b.tell((i % 2 == 0 ? 0 : 5 * (i + 1) / 2) + (i == wrong ? 1 : 0));
        }
        return b.check(n);
    }

    /** "THE DAYS TOLD of n (1 .. 30 ..". */
    private static void checkBounds() {
        for (int n : new int[] {1, 2, 29, 30}) {
            Due.due("check " + n, checked(one(), n, 2 * n, -1), 0);
        }
        for (int n : new int[] {0, 31, -1, Integer.MIN_VALUE, Integer.MAX_VALUE}) {
            TurtleBet b = one();
            Due.due("check " + n, checked(b, n, 60, -1), BAD);
            Due.due("none wait then", b.count(9), 0);
        }
    }

    /** "BAD; NO: there is no IMAGE." */
    private static void checkWithoutImage() {
        for (int n : new int[] {1, 30}) {
            TurtleBet b = new TurtleBet();
            b.turtle(0, 5);
            Due.due("no image", checked(b, n, 2 * n, -1), NO);
            Due.due("none wait then", b.count(9), 0);
        }
        Due.due("no image, bad", new TurtleBet().check(0), BAD);
        Due.due("no image, bad", new TurtleBet().check(31), BAD);
    }

    /** "else 1 and how many stand right ahead of the first that is not". */
    private static void firstThatIsNot() {
        for (int n : new int[] {1, 2, 30}) {
            for (int wrong = 0; wrong < 2 * n; wrong++) {
                TurtleBet b = one();
                Due.due("check " + n + ", wrong at " + wrong, checked(b, n, 2 * n, wrong), 1 + wrong);
                Due.due("none wait then", b.count(9), 0);
                Due.due("right ones then", checked(b, n, 2 * n, -1), 0);
            }
        }
        TurtleBet b = one();
        for (int v : new int[] {0, 6, 1, 10}) {
            b.tell(v);
        }
        Due.due("the first of two that are not", b.check(2), 2);
    }

    /** "(or is missing ..". */
    private static void missingOnes() {
        for (int n : new int[] {1, 2, 30}) {
            for (int many = 0; many < 2 * n; many++) {
                Due.due("check " + n + ", " + many + " of them", checked(one(), n, many, -1), 1 + many);
            }
        }
    }

    /** ".. or one too many)". */
    private static void tooMany() {
        for (int n : new int[] {1, 2, 29}) {
            for (int many = 2 * n + 1; many <= 60; many++) {
                Due.due("check " + n + ", " + many + " of them", checked(one(), n, many, -1), 1 + 2 * n);
            }
        }
        Due.due("wrong ahead of one too many", checked(one(), 2, 5, 3), 4);
        Due.due("the one too many is wrong, too", checked(one(), 2, 5, 4), 5);
    }

    private static TurtleBet keptOn(int day) {
        TurtleBet b = new TurtleBet();
        for (int gone = 0; gone + 300 <= day; gone += 300) {
            b.days(300);
        }
        if (day % 300 > 0) {
            b.days(day % 300);
        }
        b.turtle(0, 5);
        b.keep();
        Due.due("kept on", b.count(2), day);
        return b;
    }

    /** "fewer, if THE DAY would be above 9999". */
    private static void fewerDays() {
        int[][] due = {{9968, 30, 30}, {9969, 30, 30}, {9970, 30, 29}, {9971, 29, 28}, {9971, 28, 28}, {9997, 3, 2}, {9997, 2, 2},
            {9998, 30, 1}, {9998, 1, 1}, {9999, 1, 0}, {9999, 30, 0}};
        for (int[] one : due) {
            TurtleBet b = keptOn(one[0]);
            Due.due("check " + one[1] + " from " + one[0], checked(b, one[1], 2 * one[2], -1), 0);
            if (one[2] > 0) {
                Due.due("one missing", checked(b, one[1], 2 * one[2] - 1, -1), 2 * one[2]);
            }
            if (one[2] < 30) {
                Due.due("one too many", checked(b, one[1], 2 * one[2] + 1, -1), 1 + 2 * one[2]);
            }
        }
        TurtleBet b = keptOn(9990);
        b.days(9);
        Due.due("the day of the image, not of now", checked(b, 5, 10, -1), 0);
        TurtleBet early = one();
        for (int i = 0; i < 34; i++) {
            early.days(300);
        }
        Due.due("the last day now, the first of the image", checked(early, 30, 60, -1), 0);
    }

    /** "who LEADS (-1 without TURTLES)". */
    private static void leadsWithoutTurtles() {
        int[] leads = {-1, NONE, 0, -2};
        int[] due = {0, 1, 1, 1};
        for (int i = 0; i < 4; i++) {
            TurtleBet b = new TurtleBet();
            b.keep();
            b.tell(leads[i]);
            b.tell(0);
            Due.due("told " + leads[i], b.check(1), due[i]);
        }
        TurtleBet b = new TurtleBet();
        b.keep();
        b.tell(-1);
        b.tell(1);
        Due.due("paths of none", b.check(1), 2);
        for (int i = 0; i < 30; i++) {
            b.tell(-1);
            b.tell(0);
        }
        Due.due("30 days of none", b.check(30), 0);
    }

    /** "of n DAYS, one behind the other, by THE IMAGE: who LEADS ..; PATHS of all, together, behind each." */
    private static void checkAsDaysGo() {
        TurtleBet b = new TurtleBet();
        b.seed(31);
        b.deal(7);
        b.rule(2, 12);
        b.set(2, 4, 1);
        b.set(3, 5, 1);
        b.set(1, 3, 5);
        Due.text(b, "pace p+a-x");
        b.keep();
        for (int day = 0; day < 15; day++) {
            b.tell(b.days(1));
            b.tell(b.count(7));
        }
        Due.text(b, "pace 3");
        b.rule(1, 77);
        b.turtle(4, 4);
        Due.due("as they went", b.check(15), 0);
    }

    /** "AN IMAGE is kept: how many TURTLES." "All is as THE IMAGE: how many TURTLES. NO: there is none." */
    private static void keeps() {
        for (int many = 0; many <= 8; many++) {
            TurtleBet b = new TurtleBet();
            for (int i = 0; i < many; i++) {
                b.turtle(0, i);
            }
            Due.due("no image yet", b.back(), NO);
            Due.due("keep of " + many, b.keep(), many);
            if (many < 8) {
                b.turtle(0, 9);
            }
            Due.due("back to " + many, b.back(), many);
            Due.due("how many", b.count(0), many);
            Due.due("no more", b.told(many, 0), BAD);
        }
    }

    private static void goOff(TurtleBet b) {
        b.seed(4);
        b.deal(5);
        b.days(9);
        b.turns(0, 5);
        b.set(0, 1, 1);
        b.set(1, 5, 0);
        b.set(2, 4, 0);
        b.push(2, 50);
        b.rule(0, 20);
        b.rule(1, 70);
        b.rule(2, 20);
        b.inherit(0, 5);
        b.wager(1, 6, 99);
        Due.text(b, "pace 1");
        Due.text(b, "pay 2");
        Due.text(b, "fine 3");
    }

    /** "all can become as it is (again and again)". */
    private static void backAgainAndAgain() {
        Edge.same("back once", b -> {
            Edge.some(b);
            b.trim(0);
            b.keep();
            goOff(b);
            b.back();
        }, b -> {
            Edge.some(b);
            b.trim(0);
            b.keep();
        });
        Edge.same("back again", b -> {
            Edge.some(b);
            b.trim(0);
            b.keep();
            for (int i = 0; i < 3; i++) {
                goOff(b);
                b.back();
            }
            b.back();
        }, b -> {
            Edge.some(b);
            b.trim(0);
            b.keep();
        });
    }

    /** "AN IMAGE keeps all but SHEETS, SLOTS, numbers that wait, THE TAPE": these stay as they are. */
    private static void backKeepsTheRest() {
        TurtleBet b = new TurtleBet();
        b.sheet(0, 0, 1);
        b.lay(0, 3, 5);
        b.tell(1);
        b.feed(0, 0, 0);
        b.keep();
        b.mark(0, 0, 9);
        b.sheet(1, 1, 2);
        b.lay(0, 3, 8);
        b.lay(1, 2, 0);
        b.tell(2);
        b.feed(0, 0, 0);
        b.back();
        Due.due("the sheet", b.reads(0), 0);
        Due.due("another sheet", b.mark(1, 1, 4), 1);
        Due.due("the slot", b.rest(0, 10), 8);
        Due.due("another slot", b.item(1, 0), 9);
        Due.due("two wait", b.count(9), 2);
        Due.due("24 bytes", b.count(10), 24);
        b.check(1);
        b.trim(0);
        b.sheet(0, -1, 0);
        b.lay(0, 0, 0);
        b.back();
        Due.due("still missing", b.reads(0), TurtleBet.NOTHING);
        Due.due("still nothing", b.rest(0, 1), TurtleBet.NOTHING);
        Due.due("none wait", b.count(9), 0);
        Due.due("no bytes", b.count(10), 0);
    }

    /** An image of a new object takes all away again. */
    private static void backOfEmpty() {
        Edge.same("back to nothing", b -> {
            b.keep();
            b.turtle(0, 1);
            b.turtle(0, 2);
            b.wager(0, 1, 5);
            goOff(b);
            b.back();
        }, b -> b.keep());
        TurtleBet b = new TurtleBet();
        b.keep();
        b.turtle(4, 9);
        b.set(0, 2, 77);
        b.set(0, 3, 78);
        b.set(0, 4, 1);
        b.set(0, 5, 1);
        b.back();
        Due.due("a new one", b.turtle(0, 3), 0);
        int[] due = {0, 3, 0, 0, 0, 0};
        for (int what = 0; what < 6; what++) {
            Due.due("new: told " + what, b.told(0, what), due[what]);
        }
    }

    /** The image that was kept last is the one. */
    private static void keptAnew() {
        TurtleBet b = new TurtleBet();
        b.turtle(0, 1);
        Due.due("keep", b.keep(), 1);
        b.turtle(0, 2);
        Due.due("keep anew", b.keep(), 2);
        b.turtle(0, 3);
        Due.due("back", b.back(), 2);
        Due.due("back again", b.back(), 2);
        b.set(0, 1, 20);
        Due.due("what comes does not change the image", b.back(), 2);
        Due.due("its pace", b.told(0, 1), 1);
    }

    /** Texts told behind the image go; those of it count again, and numbers go on from it. */
    private static void backWithTexts() {
        TurtleBet b = new TurtleBet();
        b.turtle(0, 9);
        for (int i = 0; i < 13; i++) {
            Due.text(b, "fine " + (50 + i));
        }
        b.keep();
        for (int again = 0; again < 3; again++) {
            Due.due("the fourteenth", Due.text(b, "pace " + (7 + again)), 13);
            Due.due("it counts", b.step(0, 0), 7 + again);
            Due.due("the fifteenth", Due.text(b, "fine 1"), FULL);
            Due.due("back", b.back(), 1);
            Due.due("13", b.count(8), 13);
            Due.due("no text 13", b.textTold(13, 0), BAD);
            Due.due("no pace", b.why(0), NONE);
            Due.due("its pace", b.step(0, 0), 9);
            Due.due("the last fine", b.why(2), 12);
            Due.due("fine", b.fine(0), 62);
        }
        Due.text(b, "pace !!!(1+2*3-4)");
        b.back();
        Due.due("a shorter one in its stead", Due.text(b, "pace 6"), 13);
        Due.due("it gives its own", b.step(0, 0), 6);
        Due.due("it has its own words", b.textTold(13, 1), 1);
    }

    /** "How many: .. 1 those DEAD .. 7 PATHS of all, together .. BAD." */
    private static void counts() {
        TurtleBet b = new TurtleBet();
        for (int i = 0; i < 8; i++) {
            b.turtle(0, 1);
            b.set(i, 2, i % 2 == 0 ? 9999 : -9999);
            Due.due("paths", b.count(7), i % 2 == 0 ? 9999 : 0);
        }
        for (int i = 0; i < 8; i++) {
            b.set(i, 5, 1);
            Due.due("those dead", b.count(1), i + 1);
            b.set(i, 2, 9999);
        }
        Due.due("all paths", b.count(7), 79992);
        for (int i = 0; i < 8; i++) {
            b.set(i, 2, -9999);
        }
        Due.due("all paths below 0", b.count(7), -79992);
        Due.due("all dead", b.count(1), 8);
        b.egg(7, 0);
        Due.due("but one", b.count(1), 7);
        Due.due("eight", b.count(0), 8);
    }
}
