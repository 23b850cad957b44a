/** Promises 32 to 40: sheets and slots. */
public final class SheetsTest {
    private static final int BAD = TurtleBet.BAD, NO = TurtleBet.NO, NONE = TurtleBet.NONE,
            NOTHING = TurtleBet.NOTHING, KIND = TurtleBet.KIND, INDEX = TurtleBet.INDEX,
            SIZE = TurtleBet.SIZE;

    public static void main(String[] args) {
        sheet();
        mark();
        pour();
        reads();
        copy();
        copyRefused();
        lay();
        ask();
        item();
        rest();
        Due.end();
    }

    /** A place of a sheet, seen through a slot. */
    private static int seen(TurtleBet b, int sheet, int place) {
        b.lay(4, 2, sheet);
        return b.item(4, place);
    }

    private static void sheet() {
        TurtleBet b = new TurtleBet();
        Due.due("sheet -1", b.sheet(-1, 0, 1), BAD);
        Due.due("sheet 4", b.sheet(4, 0, 1), BAD);
        Due.due("sort -2", b.sheet(0, -2, 1), BAD);
        Due.due("sort 2", b.sheet(0, 2, 1), BAD);
        Due.due("n 25", b.sheet(0, 0, 25), BAD);
        Due.due("n -1", b.sheet(0, 1, -1), SIZE);
        Due.due("n -1, sort 2", b.sheet(0, 2, -1), BAD);
        Due.due("missing still", b.mark(0, 0, 0), NOTHING);
        Due.due("n 24", b.sheet(3, 1, 24), 24);
        Due.due("place 23", b.mark(3, 23, 5), 1);
        Due.due("place 24", b.mark(3, 24, 5), INDEX);
        b.mark(3, 0, 4);
        Due.due("refused", b.sheet(3, 0, -1), SIZE);
        Due.due("as it was", seen(b, 3, 23), 5);
        Due.due("again", b.sheet(3, 0, 24), 24);
        Due.due("all 0", seen(b, 3, 23), 0);
        Due.due("all 0", seen(b, 3, 0), 0);
        Due.due("shorts now", b.mark(3, 0, NONE), KIND);
        Due.due("n 0", b.sheet(3, 0, 0), 0);
        Due.due("no place", b.mark(3, 0, 1), INDEX);
        Due.due("missing, n any", b.sheet(3, -1, 99), 0);
        Due.due("missing, n any", b.sheet(3, -1, -99), 0);
        Due.due("missing", b.mark(3, 0, 1), NOTHING);
    }

    private static void mark() {
        TurtleBet b = new TurtleBet();
        b.sheet(0, 0, 2);
        b.sheet(1, 1, 2);
        int[][] shorts = {{32767, 32767}, {32768, -32768}, {-32769, 32767}, {65536, 0}, {-1, -1}};
        for (int[] one : shorts) {
            Due.due("mark", b.mark(0, 1, one[0]), 1);
            Due.due("its lowest 16 bits", seen(b, 0, 1), one[1]);
        }
        Due.due("floats", b.mark(1, 0, 99999), 1);
        Due.due("99999", seen(b, 1, 0), 99999);
        Due.due("floats", b.mark(1, 0, -99999), 1);
        Due.due("-99999", seen(b, 1, 0), -99999);
        Due.due("100000", b.mark(1, 0, 100000), BAD);
        Due.due("-100000", b.mark(1, 0, -100000), BAD);
        Due.due("as it was", seen(b, 1, 0), -99999);
        Due.due("no number", b.mark(1, 0, NONE), 1);
        Due.due("no number", seen(b, 1, 0), KIND);
        Due.due("a number again", b.mark(1, 0, 4), 1);
        Due.due("4", seen(b, 1, 0), 4);
        Due.due("none of shorts", b.mark(0, 1, NONE), KIND);
        Due.due("as it was", seen(b, 0, 1), -1);
        Due.due("sheet 4", b.mark(4, 0, 0), BAD);
        Due.due("sheet -1", b.mark(-1, 0, 0), BAD);
        Due.due("missing", b.mark(2, -1, 0), NOTHING);
        Due.due("place -1", b.mark(0, -1, 0), INDEX);
        Due.due("place 2, none", b.mark(0, 2, NONE), INDEX);
        Due.due("place 2, 100000", b.mark(1, 2, 100000), INDEX);
    }

    private static void pour() {
        TurtleBet b = new TurtleBet();
        b.turtle(0, 5);
        b.turtle(0, 6);
        b.turtle(0, 20);
        b.turtle(0, 8);
        b.sheet(0, 1, 3);
        b.mark(0, 0, NONE);
        b.mark(0, 1, -7);
        b.mark(0, 2, 21);
        Due.due("pour", b.pour(0), 1);
        int[] paces = {5, 0, 20, 8};
        for (int i = 0; i < 4; i++) {
            Due.due("pace", b.told(i, 1), paces[i]);
        }
        Due.due("again", b.pour(0), 0);
        b.sheet(1, 0, 24);
        b.mark(1, 3, 9);
        b.mark(1, 4, 9);
        Due.due("more places than turtles", b.pour(1), 3);
        Due.due("pace", b.told(3, 1), 9);
        Due.due("sheet 4", b.pour(4), BAD);
        Due.due("sheet -1", b.pour(-1), BAD);
        Due.due("missing", b.pour(2), NOTHING);
    }

    private static void reads() {
        TurtleBet b = new TurtleBet();
        b.turtle(0, 5);
        b.turtle(0, 6);
        b.set(0, 2, -30);
        b.set(1, 2, 112);
        b.sheet(0, 1, 3);
        b.mark(0, 0, 70);
        b.mark(0, 1, 12);
        Due.due("no turtle 2", b.reads(0), 2);
        b.mark(0, 2, NONE);
        Due.due("none", b.reads(0), NONE);
        b.mark(0, 1, 112);
        Due.due("the path is not the yard", b.reads(0), 1);
        b.mark(0, 0, 71);
        Due.due("the first", b.reads(0), 0);
        b.mark(0, 0, NONE);
        Due.due("of numbers alone", b.reads(0), 1);
        b.sheet(1, 0, 0);
        Due.due("no places", b.reads(1), NONE);
        Due.due("sheet 4", b.reads(4), BAD);
        Due.due("sheet -1", b.reads(-1), BAD);
        Due.due("missing", b.reads(2), NOTHING);
    }

    private static void row(TurtleBet b, int sheet, int... due) {
        for (int i = 0; i < due.length; i++) {
            Due.due("place " + i, seen(b, sheet, i), due[i]);
        }
    }

    private static void copy() {
        TurtleBet b = new TurtleBet();
        b.sheet(0, 0, 5);
        b.sheet(1, 0, 3);
        for (int i = 0; i < 5; i++) {
            b.mark(0, i, i + 1);
        }
        Due.due("copy", b.copy(0, 3, 1, 1, 2), 2);
        row(b, 1, 0, 4, 5);
        Due.due("up, as they were", b.copy(0, 0, 0, 1, 4), 4);
        row(b, 0, 1, 1, 2, 3, 4);
        Due.due("down, as they were", b.copy(0, 1, 0, 0, 4), 4);
        row(b, 0, 1, 2, 3, 4, 4);
        Due.due("none at the end", b.copy(0, 5, 1, 3, 0), 0);
        b.sheet(2, 1, 2);
        b.sheet(3, 1, 2);
        b.mark(2, 0, NONE);
        b.mark(2, 1, 8);
        Due.due("floats", b.copy(2, 0, 3, 0, 2), 2);
        row(b, 3, KIND, 8);
    }

    private static void copyRefused() {
        TurtleBet b = new TurtleBet();
        b.sheet(0, 0, 5);
        b.sheet(1, 1, 5);
        b.sheet(2, 0, 3);
        Due.due("from -1", b.copy(-1, 0, 0, 0, 1), BAD);
        Due.due("from 4", b.copy(4, 0, 0, 0, 1), BAD);
        Due.due("to -1", b.copy(0, 0, -1, 0, 1), BAD);
        Due.due("to 4", b.copy(3, 0, 4, 0, 1), BAD);
        Due.due("from missing", b.copy(3, 9, 0, 0, 1), NOTHING);
        Due.due("to missing", b.copy(0, 0, 3, 9, 1), NOTHING);
        Due.due("sorts", b.copy(0, 9, 1, 0, 1), KIND);
        Due.due("sorts, none", b.copy(1, 0, 0, 0, 0), KIND);
        Due.due("place -1", b.copy(0, -1, 2, 0, 1), INDEX);
        Due.due("at -1", b.copy(0, 0, 2, -1, 1), INDEX);
        Due.due("many -1", b.copy(0, 1, 2, 1, -1), INDEX);
        Due.due("beyond from", b.copy(0, 4, 2, 0, 2), INDEX);
        Due.due("beyond to", b.copy(0, 0, 2, 2, 2), INDEX);
        Due.due("none, beyond from", b.copy(0, 6, 2, 0, 0), INDEX);
        Due.due("none, beyond to", b.copy(0, 0, 2, 4, 0), INDEX);
        int most = Integer.MAX_VALUE;
        Due.due("far", b.copy(0, most, 2, 0, 1), INDEX);
        Due.due("far", b.copy(0, most, 2, most, most), INDEX);
        Due.due("far", b.copy(0, 1, 2, 1, most), INDEX);
        Due.due("far", b.copy(0, Integer.MIN_VALUE, 2, 1, Integer.MIN_VALUE), INDEX);
    }

    private static void lay() {
        TurtleBet b = new TurtleBet();
        b.turtle(0, 5);
        b.sheet(0, 0, 2);
        Due.due("slot -1", b.lay(-1, 0, 0), BAD);
        Due.due("slot 5", b.lay(5, 0, 0), BAD);
        Due.due("thing -1", b.lay(0, -1, 0), BAD);
        Due.due("thing 4", b.lay(0, 4, 0), BAD);
        Due.due("turtle 1", b.lay(0, 1, 1), BAD);
        Due.due("turtle -1", b.lay(0, 1, -1), BAD);
        Due.due("sheet 4", b.lay(0, 2, 4), BAD);
        Due.due("sheet -1", b.lay(0, 2, -1), BAD);
        Due.due("missing", b.lay(0, 2, 1), NOTHING);
        Due.due("number", b.lay(0, 3, Integer.MIN_VALUE), 0);
        Due.due("missing", b.lay(0, 2, 1), NOTHING);
        Due.due("turtle 1", b.lay(0, 1, 1), BAD);
        Due.due("as it was", b.rest(0, 10), -8);
        Due.due("sheet", b.lay(0, 2, 0), 3);
        Due.due("turtle", b.lay(0, 1, 0), 2);
        Due.due("nothing, k any", b.lay(0, 0, -77), 1);
        Due.due("nothing", b.lay(0, 0, 77), 0);
        Due.due("slot 4", b.lay(4, 3, 1), 0);
    }

    private static void ask() {
        TurtleBet b = new TurtleBet();
        b.turtle(4, 5);
        b.lay(0, 1, 0);
        int[] due = {37, KIND, 37, KIND, 37, KIND};
        for (int kind = 0; kind < 6; kind++) {
            Due.due("ask " + kind, b.ask(0, kind), due[kind]);
        }
        b.set(0, 1, 20);
        b.turns(0, 5);
        Due.due("as it was then", b.ask(0, 0), 37);
        Due.due("kind -1", b.ask(0, -1), BAD);
        Due.due("kind 6", b.ask(0, 6), BAD);
        Due.due("slot 5", b.ask(5, 0), BAD);
        Due.due("slot -1", b.ask(-1, 0), BAD);
        Due.due("nothing", b.ask(1, 0), NOTHING);
        Due.due("nothing, kind 6", b.ask(1, 6), BAD);
        b.lay(1, 3, 5);
        Due.due("a number", b.ask(1, 0), KIND);
        b.sheet(0, 0, 1);
        b.lay(1, 2, 0);
        Due.due("a sheet", b.ask(1, 0), KIND);
    }

    private static void item() {
        TurtleBet b = new TurtleBet();
        b.sheet(0, 1, 2);
        b.mark(0, 0, 6);
        b.mark(0, 1, NONE);
        b.lay(0, 2, 0);
        b.mark(0, 0, 7);
        b.sheet(0, -1, 0);
        Due.due("a row of its own", b.item(0, 0), 6);
        Due.due("no number", b.item(0, 1), KIND);
        Due.due("place 2", b.item(0, 2), INDEX);
        Due.due("place -1", b.item(0, -1), INDEX);
        Due.due("slot 5", b.item(5, 0), BAD);
        Due.due("slot -1", b.item(-1, 0), BAD);
        Due.due("nothing", b.item(1, -1), NOTHING);
        b.lay(1, 3, 5);
        Due.due("a number", b.item(1, -1), KIND);
        b.turtle(0, 0);
        b.lay(1, 1, 0);
        Due.due("a turtle", b.item(1, 0), KIND);
    }

    private static void rest() {
        TurtleBet b = new TurtleBet();
        b.lay(0, 3, 17);
        Due.due("17 by 5", b.rest(0, 5), 2);
        Due.due("17 by -5", b.rest(0, -5), 2);
        Due.due("17 by 0", b.rest(0, 0), NO);
        b.lay(0, 3, -17);
        Due.due("-17 by 5", b.rest(0, 5), -2);
        b.lay(0, 3, Integer.MIN_VALUE);
        Due.due("the least by -1", b.rest(0, -1), 0);
        Due.due("slot 5", b.rest(5, 1), BAD);
        Due.due("slot -1", b.rest(-1, 1), BAD);
        Due.due("nothing by 0", b.rest(1, 0), NOTHING);
        b.sheet(0, 0, 1);
        b.lay(1, 2, 0);
        Due.due("a sheet by 0", b.rest(1, 0), KIND);
    }
}
