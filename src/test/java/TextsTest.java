/** Promises 27 to 31: the tape, texts, what they give. */
public final class TextsTest {
    private static final int BAD = TurtleBet.BAD, FULL = TurtleBet.FULL, NONE = TurtleBet.NONE;

    public static void main(String[] args) {
        feedAndTrim();
        values();
        names();
        faults();
        depths();
        usedUp();
        full();
        toldAndWhy();
        pace();
        Due.end();
    }

    private static void feedAndTrim() {
        TurtleBet b = new TurtleBet();
        Due.due("trim 0", b.trim(0), 0);
        Due.due("trim 1", b.trim(1), BAD);
        for (int i = 1; i <= 8; i++) {
            Due.due("feed", b.feed(0, 0, 0), 12 * i);
        }
        Due.due("feed", b.feed(0, 0, 0), FULL);
        Due.due("96", b.count(10), 96);
        Due.due("trim 97", b.trim(97), BAD);
        Due.due("trim -1", b.trim(-1), BAD);
        Due.due("trim 96", b.trim(96), 96);
        Due.due("trim 85", b.trim(85), 85);
        Due.due("feed", b.feed(0, 0, 0), FULL);
        Due.due("85 still", b.count(10), 85);
        Due.due("trim 84", b.trim(84), 84);
        Due.due("feed", b.feed(0, 0, 0), 96);
        Due.due("trim 0", b.trim(0), 0);
        b.feed(0x66696e65, 0x20316132, 0x20202020);
        Due.due("the highest byte first: fine 1a2", b.text(), -106);
        b.turtle(0, 0);
        b.feed(0x66696e65, 0x20202020, 0x31323334);
        Due.due("text", b.text(), 0);
        Due.due("1234", b.fine(0), 1234);
    }

    private static void gives(String e, int want) {
        TurtleBet b = new TurtleBet();
        b.turtle(0, 7);
        b.set(0, 2, -250);
        Due.due("fine " + e, Due.text(b, "fine " + e), 0);
        Due.due(e, b.fine(0), want);
    }

    private static void values() {
        gives("0", 0);
        gives("9999", 9999);
        gives("0012", 12);
        gives("2+3*4", 14);
        gives("(2+3)*4", 20);
        gives("9-3-2", 4);
        gives("100/7/2", 7);
        gives("7*5/2", 17);
        gives("l/2", -1);
        gives("l*5/2", -7);
        gives("5/0", 0);
        gives("(0-5)/(3-3)+2", 2);
        gives("1<2", 1);
        gives("2<2", 0);
        gives("2=2", 1);
        gives("3=2", 0);
        gives("3>2", 1);
        gives("2>2", 0);
        gives("1+1<3*1", 1);
        gives("5&3", 1);
        gives("5&0", 0);
        gives("0&5", 0);
        gives("0|7", 1);
        gives("7|0", 1);
        gives("0|0", 0);
        gives("(0-1)|0", 1);
        gives("1|0&0", 1);
        gives("(1|0)&0", 0);
        gives("1=1&2", 1);
        gives("2&1=2", 0);
        gives("!5", 0);
        gives("!0", 1);
        gives("!!5", 1);
        gives("!0+1", 2);
        gives("!0*5", 5);
        gives("!(0+1)", 0);
        gives("2*!0", 2);
        gives("p", 7);
        gives("l", -3);
        gives("9999*9999*9999", 9999 * 9999 * 9999);
        gives("(0-32*8192*8192)/(0-1)", Integer.MIN_VALUE);
        gives("  ( p ) ", 7);
        gives("((((((((p))))))))", 7);
        gives("0|1&2<3+4*5", 1);
    }

    private static void names() {
        String[] keys = {"pace", "pay", "fine"};
        String[] names = {"pacx", "wst", "lp"};
        for (int key = 0; key < 3; key++) {
            for (char c = 'a'; c <= 'z'; c++) {
                int due = names[key].indexOf(c) >= 0 ? 0 : -100 - keys[key].length() - 1;
                Due.due(keys[key] + " " + c, Due.text(new TurtleBet(), keys[key] + " " + c), due);
            }
        }
    }

    private static void fault(String text, int place) {
        Due.due("<" + text + ">", Due.text(new TurtleBet(), text), -100 - place);
    }

    private static void faults() {
        fault("", 0);
        fault("   ", 3);
        fault("pace", 4);
        fault("pace  ", 6);
        fault("  pac 1", 2);
        fault("pacep", 0);
        fault("xace 1", 0);
        fault("xay 1", 0);
        fault("xine 1", 0);
        fault("pacez", 0);
        fault("pacea", 0);
        fault("pace0", 4);
        fault("pace9", 4);
        fault("paces 1", 0);
        fault("Pace 1", 0);
        fault("5 pace", 0);
        fault("pace pace", 5);
        fault("pace5", 4);
        fault("pace12345", 4);
        fault("pace 12345", 5);
        fault("pace 00000", 5);
        fault("pace 1 2", 7);
        fault("pace 1p", 6);
        fault("pace p1", 6);
        fault("pace px", 5);
        fault("pace p p", 7);
        fault("pace +1", 5);
        fault("pace -1", 5);
        fault("pace 1+", 7);
        fault("pace 1+ ", 8);
        fault("pace 1 +* 2", 8);
        fault("pace 1<2<3", 8);
        fault("pace 1=2 > 3", 9);
        fault("pace 1<=2", 7);
        fault("pace (1<2)<3)", 12);
        fault("pace (1", 7);
        fault("pace ()", 6);
        fault("pace (1))", 8);
        fault("pace (1 2)", 8);
        fault("pace !", 6);
        fault("pace ! )", 7);
        fault("pace 1!", 6);
        fault("pace 1(", 6);
        fault("pace A", 5);
        fault("pace\t1", 4);
        fault("pace 1\t", 6);
        fault("pace 1%2", 6);
        fault("pace 1" + (char) 225, 6);
        fault("pace 1" + (char) 0, 6);
        fault("fine 1&&2", 7);
        fault("fine 1||2", 7);
        Due.due("no blank needed", Due.text(new TurtleBet(), "pace(5)"), 0);
        Due.due("no blank needed", Due.text(new TurtleBet(), " pace!p+1<x "), 0);
        StringBuilder longest = new StringBuilder("pace 1");
        while (longest.length() < 96) {
            longest.append("+1");
        }
        Due.due("96 bytes", Due.text(new TurtleBet(), longest.toString()), 0);
        longest.setCharAt(95, '+');
        fault(longest.toString(), 95);
        longest.setCharAt(94, ' ');
        longest.setCharAt(95, ' ');
        fault(longest.toString().replace("1  ", "1+ "), 96);
    }

    private static void depths() {
        Due.due("8 (", Due.text(new TurtleBet(), "pace ((((((((1))))))))"), 0);
        fault("pace (((((((((1)))))))))", 13);
        fault("pace 1 + (((((((( 2 * ( 1", 22);
        Due.due("8 !", Due.text(new TurtleBet(), "pace !!!!!!!!1"), 0);
        fault("pace !!!!!!!!!1", 13);
        fault("pace !!!!!!!!(!1)", 14);
        fault("pace !(!(!(!(!(!(!(!(1 + !1))))))))", 25);
        Due.due("each by itself", Due.text(new TurtleBet(), "pace !(!(!(!(!(!(!(!(1))))))))"), 0);
        Due.due("beside one another",
                Due.text(new TurtleBet(), "pace (1)+(1)+(1)+(1)+(1)+(1)+(1)+(1)+(1)+!1+!1+!1+!1+!1+!1+!1+!1+!1"), 0);
        Due.due("closed again",
                Due.text(new TurtleBet(), "pace ((((((((1)))))))+(((((((1))))))))"), 0);
        Due.due("! closed again", Due.text(new TurtleBet(), "pace !!!!!!!(!1+!1)"), 0);
    }

    private static void usedUp() {
        TurtleBet b = new TurtleBet();
        Due.text(b, "pace 1");
        Due.due("used up", b.count(10), 0);
        Due.text(b, "pace");
        Due.due("used up by a fault", b.count(10), 0);
        Due.due("no text of a fault", b.count(8), 1);
    }

    private static void full() {
        TurtleBet b = new TurtleBet();
        b.turtle(0, 1);
        for (int i = 0; i < 14; i++) {
            Due.due("text", Due.text(b, "fine " + i), i);
        }
        Due.due("fifteenth", Due.text(b, "fine 77"), FULL);
        Due.due("used up", b.count(10), 0);
        Due.due("a fault goes ahead", Due.text(b, "fine 77 +"), -109);
        Due.due("14", b.count(8), 14);
        Due.due("why", b.why(2), 13);
        Due.due("fine", b.fine(0), 13);
    }

    private static void toldAndWhy() {
        TurtleBet b = new TurtleBet();
        Due.text(b, "pace 1");
        Due.text(b, "fine (l + p) * 3 - !l");
        Due.text(b, "pay w");
        Due.text(b, "pace p + x");
        int[][] then = {{0, 1}, {2, 4}, {1, 1}, {0, 2}};
        for (int i = 0; i < then.length; i++) {
            Due.due("key", b.textTold(i, 0), then[i][0]);
            Due.due("words", b.textTold(i, 1), then[i][1]);
        }
        Due.due("text 4", b.textTold(4, 0), BAD);
        Due.due("text -1", b.textTold(-1, 0), BAD);
        Due.due("what 2", b.textTold(0, 2), BAD);
        Due.due("what -1", b.textTold(0, -1), BAD);
        Due.due("pace: the last", b.why(0), 3);
        Due.due("pay", b.why(1), 2);
        Due.due("fine", b.why(2), 1);
        Due.due("key 3", b.why(3), BAD);
        Due.due("key -1", b.why(-1), BAD);
        TurtleBet other = new TurtleBet();
        Due.text(other, "pay w");
        Due.due("none", other.why(0), NONE);
    }

    private static void pace() {
        TurtleBet b = new TurtleBet();
        for (int kind = 0; kind < 6; kind++) {
            b.turtle(kind, 9);
            b.set(kind, 3, 2000);
        }
        Due.text(b, "pace p + a / 100 + c * x");
        int[] due = {59, 29, 62, 27, 65, 0};
        for (int kind = 0; kind < 6; kind++) {
            Due.due("pace text of kind " + kind, b.step(kind, 3), due[kind]);
        }
        Due.text(b, "pace 9999");
        int[] most = {99, 49, 102, 47, 105, 0};
        for (int kind = 0; kind < 6; kind++) {
            Due.due("99 at most, kind " + kind, b.step(kind, 3), most[kind]);
        }
        Due.text(b, "pace 0 - 5");
        int[] least = {0, 0, 3, 0, 6, 0};
        for (int kind = 0; kind < 6; kind++) {
            Due.due("0 at least, kind " + kind, b.step(kind, 3), least[kind]);
        }
        Due.text(b, "pace a - 1999");
        b.days(1);
        Due.due("the age ahead of the day", b.told(0, 2), 1);
    }
}
