/** Promises 32 to 40, sentence by sentence: at each bound, and on either side of it. */
public final class EdgesOfSheetsTest {
    private static final int BAD = TurtleBet.BAD, NO = TurtleBet.NO, NONE = TurtleBet.NONE,
            NOTHING = TurtleBet.NOTHING, KIND = TurtleBet.KIND, INDEX = TurtleBet.INDEX, SIZE = TurtleBet.SIZE;

    public static void main(String[] args) {
        sizes();
        missing();
        allZero();
        markedPlaces();
        shortsWrap();
        floatsBound();
        noNumber();
        poured();
        pouredHeld();
        pouredBeyond();
        readYards();
        readBeyond();
        copied();
        copiedWithinOne();
        copiedBounds();
        copiedNoNumber();
        laid();
        laidForGood();
        asked();
        items();
        rests();
        restsOfBounds();
        Due.end();
    }

    /** A place of a sheet, seen through slot 4. */
    private static int seen(TurtleBet b, int sheet, int place) {
        b.lay(4, 2, sheet);
        return b.item(4, place);
    }

    private static TurtleBet with(int sort, int... places) {
        TurtleBet b = new TurtleBet();
        b.sheet(0, sort, places.length);
        for (int i = 0; i < places.length; i++) {
            Due.due("mark", b.mark(0, i, places[i]), 1);
        }
        return b;
    }

    private static void turtles(TurtleBet b, int... paces) {
        for (int pace : paces) {
            b.turtle(0, pace);
        }
    }

    /** "with 0 to 24 places", "BAD: sheet, sort, n above 24; SIZE." */
    private static void sizes() {
        for (int sort = 0; sort <= 1; sort++) {
            int s = sort;
            for (int n = 0; n <= 24; n++) {
                TurtleBet b = new TurtleBet();
                Due.due("sheet of " + n, b.sheet(3, sort, n), n);
                Due.due("its last place", b.mark(3, n - 1, 5), n == 0 ? INDEX : 1);
                Due.due("the place behind", b.mark(3, n, 5), INDEX);
            }
            for (int n : new int[] {25, 26, Integer.MAX_VALUE}) {
                Edge.keepsAll("sheet of " + n, Edge::some, b -> b.sheet(0, s, n), BAD);
            }
            for (int n : new int[] {-1, -2, Integer.MIN_VALUE, NONE}) {
                Edge.keepsAll("sheet of " + n, Edge::some, b -> b.sheet(0, s, n), SIZE);
            }
        }
    }

    /** "(sort -1: MISSING, n any): n (0)". */
    private static void missing() {
        for (int n : new int[] {0, 1, -1, 24, 25, Integer.MAX_VALUE, Integer.MIN_VALUE}) {
            TurtleBet b = Edge.made(Edge::some);
            Due.due("missing, n " + n, b.sheet(0, -1, n), 0);
            Due.due("it is", b.mark(0, 0, 1), NOTHING);
            Due.due("again", b.sheet(0, -1, n), 0);
            Due.due("another one is not", b.mark(1, 0, 1), 1);
            Due.due("the slot has its own", b.item(4, 0), -4);
        }
        TurtleBet b = new TurtleBet();
        for (int sheet = 0; sheet < 4; sheet++) {
            Due.due("missing at first", b.mark(sheet, 0, 0), NOTHING);
            Due.due("a row", b.sheet(sheet, 0, 1), 1);
            Due.due("it is there", b.mark(sheet, 0, 0), 1);
        }
    }

    /** "A SHEET becomes a row of n places of a sort, all 0". */
    private static void allZero() {
        for (int sort = 0; sort <= 1; sort++) {
            TurtleBet b = with(1 - sort, new int[24]);
            for (int i = 0; i < 24; i++) {
                b.mark(0, i, 9);
            }
            b.sheet(0, sort, 24);
            for (int i = 0; i < 24; i++) {
                Due.due("0", seen(b, 0, i), 0);
            }
            b.mark(0, 23, 8);
            b.sheet(0, sort, 2);
            b.sheet(0, sort, 24);
            Due.due("0 where it was longer once", seen(b, 0, 23), 0);
            b.mark(0, 5, 8);
            b.sheet(0, -1, 24);
            b.sheet(0, sort, 24);
            Due.due("0 where it was missing", seen(b, 0, 5), 0);
        }
    }

    /** "INDEX: there is no such place". */
    private static void markedPlaces() {
        for (int n : new int[] {0, 1, 2, 23, 24}) {
            for (int place : new int[] {Integer.MIN_VALUE, -1, 0, 1, n - 2, n - 1, n, n + 1, 24, Integer.MAX_VALUE}) {
                TurtleBet b = new TurtleBet();
                b.sheet(1, 1, n);
                boolean is = place >= 0 && place < n;
                Due.due("mark " + place + " of " + n, b.mark(1, place, 6), is ? 1 : INDEX);
                b.lay(0, 2, 1);
                Due.due("item " + place + " of " + n, b.item(0, place), is ? 6 : INDEX);
                Due.due("another item", b.item(0, place == 0 ? 1 : 0), n > (place == 0 ? 1 : 0) ? 0 : INDEX);
            }
        }
    }

    /** "of shorts its lowest 16 bits". */
    private static void shortsWrap() {
        int[][] due = {{0, 0}, {1, 1}, {-1, -1}, {32766, 32766}, {32767, 32767}, {32768, -32768}, {32769, -32767}, {-32767, -32767},
            {-32768, -32768}, {-32769, 32767}, {65535, -1}, {65536, 0}, {65537, 1}, {-65536, 0}, {99999, -31073},
            {100000, -31072}, {Integer.MAX_VALUE, -1}, {Integer.MIN_VALUE, 0}, {TurtleBet.BAD, 13823}, {TurtleBet.KIND, 13812}};
        for (int[] one : due) {
            Due.due("short of " + one[0], seen(with(0, one[0]), 0, 0), one[1]);
        }
    }

    /** "of floats v, -99999 .. 99999". */
    private static void floatsBound() {
        for (int v : new int[] {-99999, -99998, -32769, -1, 0, 1, 32768, 99998, 99999}) {
            Due.due("float of " + v, seen(with(1, v), 0, 0), v);
        }
        for (int v : new int[] {-100000, -100001, 100000, 100001, Integer.MIN_VALUE, Integer.MAX_VALUE, NONE - 1, NONE + 1, BAD, KIND}) {
            Edge.keepsAll("float of " + v, Edge::some, b -> b.mark(1, 0, v), BAD);
            Edge.keepsAll("float of " + v + " on no number", Edge::some, b -> b.mark(1, 1, v), BAD);
        }
    }

    /** "NONE: NO NUMBER", "KIND: NONE in a row of shorts". */
    private static void noNumber() {
        TurtleBet b = with(1, 3, NONE, 4);
        Due.due("a number", seen(b, 0, 0), 3);
        Due.due("no number", seen(b, 0, 1), KIND);
        Due.due("no number again", b.mark(0, 1, NONE), 1);
        Due.due("a number again", b.mark(0, 1, 0), 1);
        Due.due("0", seen(b, 0, 1), 0);
        Edge.keepsAll("none of shorts", Edge::some, s -> s.mark(0, 1, NONE), KIND);
        b.mark(0, 1, NONE);
        b.sheet(0, 1, 3);
        Due.due("a new row has numbers", seen(b, 0, 1), 0);
    }

    /** "PACES of TURTLES, by numbers, become the places of a SHEET from 0 on .. how many are otherwise then." */
    private static void poured() {
        TurtleBet b = with(0, 5, 6, 7);
        turtles(b, 5, 0, 7);
        Due.due("one is otherwise", b.pour(0), 1);
        Due.due("6", b.told(1, 1), 6);
        Due.due("none is", b.pour(0), 0);
        TurtleBet all = with(0, 1, 2, 3, 4, 5, 6, 7, 8);
        turtles(all, 0, 0, 0, 0, 0, 0, 0, 0);
        all.set(3, 5, 1);
        Due.due("all eight, dead ones too", all.pour(0), 8);
        for (int i = 0; i < 8; i++) {
            Due.due("pace " + i, all.told(i, 1), i + 1);
        }
        Due.due("without turtles", with(0, 1, 2).pour(0), 0);
        Due.due("still none", with(0, 1, 2).count(0), 0);
    }

    /** "each held within 0 .. 20". */
    private static void pouredHeld() {
        int[][] due = {{-32768, 0}, {-1, 0}, {0, 0}, {1, 1}, {19, 19}, {20, 20}, {21, 20}, {32767, 20}};
        for (int sort = 0; sort <= 1; sort++) {
            for (int[] one : due) {
                for (int was : new int[] {0, 20}) {
                    TurtleBet b = with(sort, one[0]);
                    turtles(b, was);
                    Due.due("pour of " + one[0] + " on " + was, b.pour(0), was == one[1] ? 0 : 1);
                    Due.due("its pace", b.told(0, 1), one[1]);
                    Due.due("the sheet stays", seen(b, 0, 0), one[0]);
                }
            }
        }
        TurtleBet b = with(1, -99999, 99999);
        turtles(b, 7, 7);
        Due.due("pour", b.pour(0), 2);
        Due.due("0 at least", b.told(0, 1), 0);
        Due.due("20 at most", b.told(1, 1), 20);
    }

    /** "NO NUMBER, and beyond the SHEET: they stay". */
    private static void pouredBeyond() {
        TurtleBet b = with(1, NONE, 3, NONE);
        turtles(b, 9, 9, 9, 9);
        Due.due("pour", b.pour(0), 1);
        int[] due = {9, 3, 9, 9};
        for (int i = 0; i < 4; i++) {
            Due.due("pace " + i, b.told(i, 1), due[i]);
        }
        b.sheet(1, 0, 0);
        Due.due("no places", b.pour(1), 0);
        b.sheet(1, 0, 4);
        Due.due("as many places as turtles", b.pour(1), 4);
        b.sheet(1, 0, 5);
        b.mark(1, 3, 8);
        b.mark(1, 4, 8);
        Due.due("a place more than turtles", b.pour(1), 1);
        b.sheet(1, 0, 3);
        b.mark(1, 2, 8);
        Due.due("a place less than turtles", b.pour(1), 1);
        Due.due("8", b.told(2, 1), 8);
        Due.due("8 stays", b.told(3, 1), 8);
    }

    /** "The first place (of numbers alone) at which a SHEET is not YARD of that TURTLE". */
    private static void readYards() {
        int[] yards = {0, 1, 99, 99, 1, 0};
        int[] paths = {0, 1, 99, -1, -99, -100};
        for (int off = -1; off <= 1; off++) {
            for (int wrong = 0; wrong < 6; wrong++) {
                TurtleBet b = with(1, yards);
                for (int i = 0; i < 6; i++) {
                    b.turtle(0, 0);
                    b.set(i, 2, paths[i]);
                }
                Due.due("none", b.reads(0), NONE);
                b.mark(0, wrong, yards[wrong] + off);
                Due.due("one off", b.reads(0), off == 0 ? NONE : wrong);
                b.mark(0, 5, 77);
                Due.due("the first", b.reads(0), off == 0 ? 5 : wrong);
                b.mark(0, wrong, NONE);
                Due.due("of numbers alone", b.reads(0), wrong == 5 ? NONE : 5);
            }
        }
        TurtleBet b = with(0, 100);
        turtles(b, 0);
        b.set(0, 2, 100);
        Due.due("a path is no yard", b.reads(0), 0);
        b.rule(0, 101);
        Due.due("of a greater moat it is", b.reads(0), NONE);
    }

    /** "(of places that are no TURTLE all numbers are not)". */
    private static void readBeyond() {
        Due.due("no turtles, no places", with(0).reads(0), NONE);
        Due.due("no turtles", with(0, 0).reads(0), 0);
        Due.due("no turtles, no number", with(1, NONE).reads(0), NONE);
        Due.due("no turtles, no number, a number", with(1, NONE, 0).reads(0), 1);
        TurtleBet b = with(0, 0, 0, 0);
        turtles(b, 0, 0);
        Due.due("a place more than turtles", b.reads(0), 2);
        b.turtle(0, 0);
        Due.due("as many", b.reads(0), NONE);
        b.turtle(0, 0);
        Due.due("a turtle more", b.reads(0), NONE);
        TurtleBet many = with(1, new int[24]);
        turtles(many, 0, 0, 0, 0, 0, 0, 0, 0);
        Due.due("place 8 of eight turtles", many.reads(0), 8);
        for (int i = 8; i < 23; i++) {
            many.mark(0, i, NONE);
        }
        Due.due("place 23", many.reads(0), 23);
        many.mark(0, 23, NONE);
        Due.due("none", many.reads(0), NONE);
    }

    private static TurtleBet rows() {
        TurtleBet b = new TurtleBet();
        b.sheet(0, 0, 4);
        b.sheet(1, 0, 3);
        for (int i = 0; i < 4; i++) {
            b.mark(0, i, 10 + i);
            b.mark(1, i, 20 + i);
        }
        return b;
    }

    private static void row(String what, TurtleBet b, int sheet, int... due) {
        for (int i = 0; i < due.length; i++) {
            Due.due(what + ", place " + i, seen(b, sheet, i), due[i]);
        }
        Due.due(what + ", no more", seen(b, sheet, due.length), INDEX);
    }

    /** "So many places of a SHEET come to another one": every place, at, many of two short rows. */
    private static void copied() {
        for (int place = -1; place <= 5; place++) {
            for (int at = -1; at <= 4; at++) {
                for (int many = -1; many <= 5; many++) {
                    TurtleBet b = rows();
                    boolean fits = place >= 0 && at >= 0 && many >= 0 && place + many <= 4 && at + many <= 3;
                    Due.due("copy " + place + " " + at + " " + many, b.copy(0, place, 1, at, many), fits ? many : INDEX);
                    int[] due = {20, 21, 22};
                    for (int i = 0; fits && i < many; i++) {
                        due[at + i] = 10 + place + i;
                    }
                    row("copy to", b, 1, due);
                    row("copy from", b, 0, 10, 11, 12, 13);
                }
            }
        }
    }

    /** "to another one (or the same), as they were". */
    private static void copiedWithinOne() {
        for (int place = 0; place <= 4; place++) {
            for (int at = 0; at <= 4; at++) {
                for (int many = 0; place + many <= 4 && at + many <= 4; many++) {
                    TurtleBet b = rows();
                    Due.due("copy within", b.copy(0, place, 0, at, many), many);
                    int[] due = {10, 11, 12, 13};
                    for (int i = 0; i < many; i++) {
                        due[at + i] = 10 + place + i;
                    }
                    row("copy within " + place + " " + at + " " + many, b, 0, due);
                }
            }
        }
    }

    /** Far beyond, where sums would wrap; rows of no places. */
    private static void copiedBounds() {
        int most = Integer.MAX_VALUE;
        int least = Integer.MIN_VALUE;
        int[][] far = {{most, 0, 1}, {0, most, 1}, {0, 0, most}, {1, 0, most}, {0, 1, most}, {most, most, most}, {most, 0, 0},
            {0, most, 0}, {least, 0, 1}, {0, least, 1}, {0, 0, least}, {least, least, least}, {least, 0, most}, {most, 0, least},
            {4, 3, least}, {-1, 0, 0}, {0, -1, 0}, {24, 0, 0}, {0, 24, 0}, {0, 0, 24}, {0, 0, 25}};
        for (int[] one : far) {
            Edge.keepsAll("copy " + one[0] + " " + one[1] + " " + one[2], b -> {
                b.sheet(0, 0, 4);
                b.sheet(1, 0, 3);
            }, b -> b.copy(0, one[0], 1, one[1], one[2]), INDEX);
        }
        TurtleBet b = new TurtleBet();
        b.sheet(0, 0, 0);
        b.sheet(1, 0, 24);
        b.sheet(2, 0, 24);
        b.mark(1, 23, 6);
        Due.due("none of none", b.copy(0, 0, 0, 0, 0), 0);
        Due.due("one of none", b.copy(0, 0, 1, 0, 1), INDEX);
        Due.due("one to none", b.copy(1, 0, 0, 0, 1), INDEX);
        Due.due("place 1 of none", b.copy(0, 1, 1, 0, 0), INDEX);
        Due.due("all 24", b.copy(1, 0, 2, 0, 24), 24);
        Due.due("the last of them", seen(b, 2, 23), 6);
        Due.due("none behind the last", b.copy(1, 24, 2, 24, 0), 0);
        Due.due("25", b.copy(1, 0, 2, 0, 25), INDEX);
    }

    /** NO NUMBER comes along; nothing of it in shorts. */
    private static void copiedNoNumber() {
        TurtleBet b = with(1, NONE, 5, NONE);
        b.sheet(1, 1, 3);
        Due.due("copy", b.copy(0, 0, 1, 1, 2), 2);
        row("with no number", b, 1, 0, KIND, 5);
        Due.due("copy over it", b.copy(1, 0, 1, 1, 1), 1);
        row("a number over it", b, 1, 0, 0, 5);
        b.sheet(2, 0, 3);
        Due.due("to shorts", b.copy(0, 1, 2, 0, 1), KIND);
        Due.due("to shorts, none", b.copy(0, 0, 2, 0, 0), KIND);
        Due.due("from shorts", b.copy(2, 0, 0, 0, 1), KIND);
        Due.due("to itself", b.copy(2, 0, 2, 0, 3), 3);
    }

    /** "thing 0 nothing, 1 TURTLE k, 2 SHEET k, 3 the number k: what it held (0 .. 3)." */
    private static void laid() {
        for (int slot = 0; slot < 5; slot++) {
            for (int was = 0; was < 4; was++) {
                for (int then = 0; then < 4; then++) {
                    TurtleBet b = with(0, 8);
                    turtles(b, 3);
                    Due.due("first", b.lay(slot, was, 0), 0);
                    Due.due("what it held", b.lay(slot, then, 0), was);
                    Due.due("ask", b.ask(slot, 0), then == 1 ? 3 : then == 0 ? NOTHING : KIND);
                    Due.due("item", b.item(slot, 0), then == 2 ? 8 : then == 0 ? NOTHING : KIND);
                    Due.due("rest", b.rest(slot, 2), then == 3 ? 0 : then == 0 ? NOTHING : KIND);
                    for (int other = 0; other < 5; other++) {
                        Due.due("others hold nothing", b.lay(other, 0, 0), other == slot ? then : 0);
                    }
                }
            }
        }
        for (int k : new int[] {Integer.MIN_VALUE, -1, 0, 1, Integer.MAX_VALUE, NONE, BAD}) {
            TurtleBet b = new TurtleBet();
            Due.due("the number " + k, b.lay(0, 3, k), 0);
            Due.due("its rest", b.rest(0, 7), k % 7);
            Due.due("nothing, k any", b.lay(0, 0, k), 3);
            Due.due("nothing", b.rest(0, 7), NOTHING);
        }
        TurtleBet b = with(0);
        Due.due("a row of no places", b.lay(0, 2, 0), 0);
        Due.due("no place", b.item(0, 0), INDEX);
    }

    /** "a TURTLE (as it is then, for good), a SHEET (a row of its own, as it was then)". */
    private static void laidForGood() {
        TurtleBet b = with(1, 5, NONE);
        turtles(b, 7);
        b.keep();
        b.turns(0, 4);
        b.lay(0, 1, 0);
        b.lay(1, 2, 0);
        b.turns(0, 5);
        b.set(0, 1, 20);
        b.mark(0, 0, 6);
        b.mark(0, 1, 6);
        Due.due("the turtle as it was", b.ask(0, 4), 35);
        Due.due("the row as it was", b.item(1, 0), 5);
        Due.due("no number as it was", b.item(1, 1), KIND);
        b.back();
        b.sheet(0, 0, 24);
        Due.due("back does not matter", b.ask(0, 2), 35);
        Due.due("nor a new row", b.item(1, 2), INDEX);
        Due.due("the row as it was", b.item(1, 0), 5);
        b.sheet(0, -1, 0);
        Due.due("nor a missing one", b.item(1, 0), 5);
        b.lay(2, 1, 0);
        Due.due("another slot has it as it is now", b.ask(2, 0), 7);
        Due.due("the first slot still", b.ask(0, 0), 35);
    }

    /** "WORTH of the TURTLE in a SLOT, taken for one of a KIND (0 .. 5)": its own WORTH, whatever it is taken for. */
    private static void asked() {
        int[] worth = {13, 43, 37, 86, 29, 1};
        int[][] are = {{0}, {0, 1}, {0, 2}, {0, 1, 3}, {0, 2, 4}, {0, 5}};
        for (int kind = 0; kind < 6; kind++) {
            TurtleBet b = new TurtleBet();
            b.turtle(kind, 13);
            b.lay(3, 1, 0);
            boolean[] is = new boolean[6];
            for (int one : are[kind]) {
                is[one] = true;
            }
            for (int wanted = 0; wanted < 6; wanted++) {
                Due.due("ask " + kind + " for " + wanted, b.ask(3, wanted), is[wanted] ? worth[kind] : KIND);
            }
        }
    }

    /** "A place of the SHEET in a SLOT .. INDEX; KIND: NO NUMBER." */
    private static void items() {
        TurtleBet b = with(1, -99999, 0, NONE, 99999);
        b.lay(2, 2, 0);
        int[] due = {INDEX, -99999, 0, KIND, 99999, INDEX};
        for (int place = -1; place <= 4; place++) {
            Due.due("item " + place, b.item(2, place), due[place + 1]);
        }
        Due.due("far", b.item(2, Integer.MAX_VALUE), INDEX);
        Due.due("far below", b.item(2, Integer.MIN_VALUE), INDEX);
        TurtleBet shorts = with(0, 32768, 32767);
        shorts.lay(2, 2, 0);
        Due.due("the least short", shorts.item(2, 0), -32768);
        Due.due("the greatest short", shorts.item(2, 1), 32767);
    }

    /** "The rest of the number in a SLOT by n .. NO: n is 0.", "/ cuts towards 0". */
    private static void rests() {
        int[][] due = {{11, 4, 3}, {11, -4, 3}, {-11, 4, -3}, {-11, -4, -3}, {12, 4, 0}, {-12, 4, 0}, {3, 4, 3}, {-3, 4, -3},
            {4, 4, 0}, {5, 4, 1}, {0, 4, 0}, {0, -4, 0}, {7, 1, 0}, {7, -1, 0}, {-7, 1, 0}};
        for (int[] one : due) {
            TurtleBet b = new TurtleBet();
            b.lay(4, 3, one[0]);
            Due.due("rest of " + one[0] + " by " + one[1], b.rest(4, one[1]), one[2]);
            Due.due("by 0", b.rest(4, 0), NO);
            Due.due("it stays", b.rest(4, one[1]), one[2]);
        }
    }

    private static void restsOfBounds() {
        int most = Integer.MAX_VALUE;
        int least = Integer.MIN_VALUE;
        int[][] due = {{least, -1, 0}, {least, 1, 0}, {least, least, 0}, {least, most, -1}, {most, least, most}, {most, most, 0},
            {most, -1, 0}, {-1, least, -1}, {least, 2, 0}, {least, 10, -8}, {most, 10, 7}};
        for (int[] one : due) {
            TurtleBet b = new TurtleBet();
            b.lay(0, 3, one[0]);
            Due.due("rest of " + one[0] + " by " + one[1], b.rest(0, one[1]), one[2]);
        }
    }
}
