/** Promises 1 to 14, sentence by sentence: at each bound, and on either side of it. */
public final class EdgesOfTurtlesTest {
    private static final int BAD = TurtleBet.BAD, NO = TurtleBet.NO, FULL = TurtleBet.FULL,
            KIND = TurtleBet.KIND;

    public static void main(String[] args) {
        atFirst();
        eightAtMost();
        paces();
        kindsUnderOneAnother();
        lapsAndYards();
        settable();
        pushes();
        pushedBeyond();
        rules();
        steps();
        stepsHeld();
        stepsOfTheOld();
        stepsByCold();
        worths();
        turnsToTheSame();
        eggs();
        Due.end();
    }

    private static TurtleBet with(int kind, int pace) {
        TurtleBet b = new TurtleBet();
        b.turtle(kind, pace);
        return b;
    }

    /** "100 at first", "10 at first", "(5000)", "THE DAY is 0 at first", "z is told (1 at first)", "0 at first", "(not)". */
    private static void atFirst() {
        TurtleBet b = new TurtleBet();
        int[] counts = {0, 0, 0, 100, 10, 5000, 0, 0, 0, 0, 0, 1};
        for (int what = 0; what < 12; what++) {
            Due.due("at first: count " + what, b.count(what), counts[what]);
        }
        Due.due("the moat was", b.rule(0, 10), 100);
        Due.due("cold was", b.rule(1, 0), 10);
        Due.due("life was", b.rule(2, 1), 5000);
        Due.due("z was", b.seed(0), 1);
        Due.due("the first number", b.turtle(0, 0), 0);
        for (int what = 0; what <= 8; what++) {
            Due.due("a new turtle: " + what, b.told(0, what), 0);
        }
    }

    /** "TURTLES, 8 at most, numbered from 0": the eighth comes, the ninth is refused. */
    private static void eightAtMost() {
        TurtleBet b = new TurtleBet();
        for (int i = 0; i < 8; i++) {
            Due.due("not there yet", b.told(i, 0), BAD);
            Due.due("turtle " + i, b.turtle(1, i), i);
            Due.due("how many", b.count(0), i + 1);
            Due.due("its pace", b.told(i, 1), i);
        }
        Due.due("the ninth", b.turtle(1, 8), FULL);
        Due.due("the ninth again", b.turtle(0, 0), FULL);
        Due.due("how many", b.count(0), 8);
        Due.due("no turtle 8", b.told(8, 1), BAD);
        Due.due("7 is as it was", b.told(7, 1), 7);
        b = new TurtleBet();
        b.deal(7);
        Due.due("the eighth behind seven by lot", b.turtle(0, 0), 7);
        Due.due("the ninth behind them", b.turtle(0, 0), FULL);
    }

    /** "PACE 0 .. 20". */
    private static void paces() {
        for (int kind = 0; kind < 6; kind++) {
            int k = kind;
            Edge.bounds("turtle of kind " + kind, 0, 20, Edge::some, (b, v) -> b.turtle(k, v), v -> 3);
            Due.due("pace 0", with(kind, 0).told(0, 1), 0);
            Due.due("pace 20", with(kind, 20).told(0, 1), 20);
        }
    }

    /** "KIND: it is not of that KIND, nor of one under it." */
    private static void kindsUnderOneAnother() {
        int[] above = {-1, 0, 0, 1, 2, 0};
        for (int kind = 0; kind < 6; kind++) {
            for (int pace = 0; pace <= 20; pace += 20) {
                TurtleBet b = with(kind, pace);
                b.lay(0, 1, 0);
                for (int wanted = 0; wanted < 6; wanted++) {
                    boolean is = kind == wanted || above[kind] == wanted || above[kind] > 0 && above[above[kind]] == wanted;
                    Due.due("as " + kind + " " + wanted, b.as(0, wanted), is ? pace : KIND);
                    Due.due("ask " + kind + " " + wanted, b.ask(0, wanted), is ? b.told(0, 8) : KIND);
                }
            }
        }
    }

    /** "LAPS: PATH by the yards of THE MOAT, the greatest whole number that is no more; YARD: the rest (0 or more)." */
    private static void lapsAndYards() {
        for (int yards : new int[] {10, 11, 99, 100, 101, 998, 999}) {
            TurtleBet b = with(0, 0);
            b.rule(0, yards);
            for (int laps = -3; laps <= 3; laps++) {
                lapsAt(b, laps * yards, laps, 0);
                lapsAt(b, laps * yards + 1, laps, 1);
                lapsAt(b, laps * yards - 1, laps - 1, yards - 1);
            }
        }
        TurtleBet b = with(0, 0);
        lapsAt(b, 9999, 99, 99);
        lapsAt(b, -9999, -100, 1);
        b.rule(0, 10);
        lapsAt(b, 9999, 999, 9);
        lapsAt(b, -9999, -1000, 1);
    }

    private static void lapsAt(TurtleBet b, int path, int laps, int yard) {
        b.set(0, 2, path);
        Due.due("path " + path, b.told(0, 2), path);
        Due.due("laps of " + path + " by " + b.count(3), b.told(0, 6), laps);
        Due.due("yard of " + path + " by " + b.count(3), b.told(0, 7), yard);
        Due.due("fine of " + path, b.fine(0), laps);
        Due.due("laps behind 0 days", b.behind(0, 0, 1), laps);
    }

    /** "PACE, PATH (-9999 .. 9999), AGE, TURNED, DEAD (0, 1) (what 1 .. 5) of a TURTLE becomes v: what it was." */
    private static void settable() {
        int[] least = {0, -9999, 0, 0, 0};
        int[] most = {20, 9999, 9999, 1, 1};
        for (int what = 1; what <= 5; what++) {
            int w = what;
            int was = Edge.made(Edge::some).told(1, what);
            Edge.bounds("set " + what, least[what - 1], most[what - 1], Edge::some, (b, v) -> b.set(1, w, v), v -> was);
            for (int v : new int[] {least[what - 1], most[what - 1]}) {
                TurtleBet b = Edge.made(Edge::some);
                b.set(1, what, v);
                for (int other = 0; other <= 5; other++) {
                    Due.due("told " + other + " behind set " + what, b.told(1, other),
                            other == what ? v : Edge.made(Edge::some).told(1, other));
                }
                Due.due("set again: what it was", b.set(1, what, least[what - 1]), v);
            }
        }
    }

    /** "PATH of a TURTLE is v (-99 .. 99) more: its YARD then." */
    private static void pushes() {
        Edge.bounds("push", -99, 99, b -> b.turtle(0, 0), (b, v) -> b.push(0, v), v -> (v + 100) % 100);
        int[][] due = {{0, 0, 0}, {0, -1, 99}, {0, 1, 1}, {99, 1, 0}, {99, 0, 99}, {100, -1, 99}, {100, 0, 0},
            {-1, 1, 0}, {-100, -1, 99}, {-100, 0, 0}, {1, -99, 2}, {1, 99, 0}};
        for (int[] one : due) {
            TurtleBet b = with(0, 0);
            b.set(0, 2, one[0]);
            Due.due("push of " + one[0] + " by " + one[1], b.push(0, one[1]), one[2]);
            Due.due("its path", b.told(0, 2), one[0] + one[1]);
        }
    }

    /** set has the bound of 9999, a push has none. */
    private static void pushedBeyond() {
        TurtleBet b = with(0, 0);
        b.set(0, 2, 9999);
        Due.due("push beyond 9999", b.push(0, 1), 0);
        Due.due("10000", b.told(0, 2), 10000);
        Due.due("set tells it", b.set(0, 2, -9999), 10000);
        Due.due("push beyond -9999", b.push(0, -1), 0);
        Due.due("-10000", b.told(0, 2), -10000);
        Due.due("laps", b.told(0, 6), -100);
        b.set(0, 4, 1);
        b.set(0, 5, 1);
        Due.due("a dead one that is turned goes by v, too", b.push(0, 99), 99);
        Due.due("-9901", b.told(0, 2), -9901);
    }

    /** "THE MOAT is 10 .. 999", "COLD is 0 .. 99", "LIFE 1 .. 9999". */
    private static void rules() {
        int[] least = {10, 0, 1};
        int[] most = {999, 99, 9999};
        int[] was = {150, 15, 4000};
        for (int what = 0; what < 3; what++) {
            int w = what;
            Edge.bounds("rule " + what, least[what], most[what], Edge::some, (b, v) -> b.rule(w, v), v -> was[w]);
            TurtleBet b = Edge.made(Edge::some);
            b.rule(what, most[what]);
            for (int other = 0; other < 3; other++) {
                Due.due("count behind rule " + what, b.count(3 + other), other == what ? most[what] : was[other]);
            }
            Due.due("rule again: what it was", b.rule(what, least[what]), most[what]);
            Due.due("the least", b.count(3 + what), least[what]);
        }
    }

    /** "STEP of a TURTLE by x (0 .. 9; ICE does not matter)", "WILD: as QUICK, and x". */
    private static void steps() {
        Edge.bounds("step: x", 0, 9, b -> b.turtle(4, 6), (b, v) -> b.step(0, v), v -> 6 + 3 + v);
        for (int pace : new int[] {0, 1, 19, 20}) {
            Due.due("turtle", with(0, pace).step(0, 9), pace);
            Due.due("stone", with(5, pace).step(0, 9), 0);
            Due.due("quick", with(2, pace).step(0, 9), pace + 3);
            Due.due("wild", with(4, pace).step(0, 0), pace + 3);
            Due.due("wild", with(4, pace).step(0, 9), pace + 12);
        }
        for (int pace = 0; pace <= 20; pace++) {
            Due.due("slow: half, cut", with(1, pace).step(0, 9), pace % 2 == 0 ? pace / 2 : (pace - 1) / 2);
        }
        for (int cold : new int[] {59, 60, 61, 99}) {
            TurtleBet b = with(0, 7);
            b.rule(1, cold);
            Due.due("ice does not matter", b.step(0, 0), 7);
        }
        TurtleBet b = with(0, 7);
        b.set(0, 4, 1);
        b.set(0, 5, 1);
        Due.due("nor whether it is turned or dead", b.step(0, 0), 7);
    }

    /** "TURTLE: what pace gives, held within 0 .. 99". */
    private static void stepsHeld() {
        String[] gives = {"0-9999", "0-1", "0", "1", "98", "99", "100", "9999", "9999*9999*9", "9999*9999*22"};
        int[] held = {0, 0, 0, 1, 98, 99, 99, 99, 99, 0};
        for (int i = 0; i < gives.length; i++) {
            for (int kind = 0; kind < 6; kind++) {
                TurtleBet b = with(kind, 20);
                Due.due("text", Due.text(b, "pace " + gives[i]), 0);
                int[] due = {held[i], held[i] / 2, held[i] + 3, held[i] / 2, held[i] + 3 + 4, 0};
                Due.due("pace " + gives[i] + " of kind " + kind, b.step(0, 4), due[kind]);
            }
        }
        Due.isTrue("9999 * 9999 * 22 wraps below 0", 9999 * 9999 * 22 < 0 && 9999 * 9999 * 9 > 0);
    }

    /** "OLD: as SLOW, less AGE / 1000 (0 at least)." */
    private static void stepsOfTheOld() {
        int[][] due = {{20, 0, 10}, {20, 999, 10}, {20, 1000, 9}, {20, 1001, 9}, {20, 1999, 9}, {20, 2000, 8},
            {20, 9999, 1}, {20, 8999, 2}, {18, 8999, 1}, {18, 9000, 0}, {18, 9999, 0}, {16, 9000, 0}, {3, 999, 1},
            {3, 1000, 0}, {3, 2000, 0}, {1, 999, 0}, {1, 1000, 0}, {0, 9999, 0}};
        for (int[] one : due) {
            TurtleBet b = with(3, one[0]);
            b.set(0, 3, one[1]);
            Due.due("old, pace " + one[0] + ", age " + one[1], b.step(0, 9), one[2]);
            b.turns(0, 1);
            Due.due("slow does not look at age", b.step(0, 9), one[0] / 2);
        }
    }

    /** "QUICK: as TURTLE, and 3, if COLD is below 20, else as TURTLE." */
    private static void stepsByCold() {
        int[] colds = {0, 1, 18, 19, 20, 21, 59, 60, 61, 99};
        int[] more = {3, 3, 3, 3, 0, 0, 0, 0, 0, 0};
        for (int i = 0; i < colds.length; i++) {
            for (int kind = 0; kind < 6; kind++) {
                TurtleBet b = with(kind, 8);
                b.rule(1, colds[i]);
                int[] due = {8, 4, 8 + more[i], 4, 8 + more[i] + 5, 0};
                Due.due("kind " + kind + " at " + colds[i], b.step(0, 5), due[kind]);
            }
        }
    }

    /** "WORTH: TURTLE: PACE. SLOW: as TURTLE, and 30. OLD: twice as SLOW. QUICK: 50 less PACE. WILD: .. less 8. STONE: 1." */
    private static void worths() {
        int[] least = {0, 30, 50, 60, 42, 1};
        int[] most = {20, 50, 30, 100, 22, 1};
        for (int kind = 0; kind < 6; kind++) {
            Due.due("worth of kind " + kind + ", pace 0", with(kind, 0).told(0, 8), least[kind]);
            Due.due("worth of kind " + kind + ", pace 20", with(kind, 20).told(0, 8), most[kind]);
        }
        TurtleBet b = with(2, 20);
        Due.text(b, "pace 3");
        Due.due("no text matters", b.told(0, 8), 30);
    }

    /** "A TURTLE is of another KIND from now on: what it was." */
    private static void turnsToTheSame() {
        for (int kind = 0; kind < 6; kind++) {
            for (int then = 0; then < 6; then++) {
                TurtleBet b = Edge.made(Edge::some);
                b.turns(1, kind);
                Due.due("turns", b.turns(1, then), kind);
                Due.due("then", b.told(1, 0), then);
                Due.due("still dead", b.told(1, 5), 1);
            }
        }
    }

    /** "a DEAD TURTLE is not DEAD any more, with AGE 0, of a KIND: LAPS .. NO: it is not DEAD." */
    private static void eggs() {
        int[][] due = {{0, 0}, {99, 0}, {100, 1}, {101, 1}, {-1, -1}, {-100, -1}, {-101, -2}};
        for (int[] one : due) {
            TurtleBet b = with(3, 7);
            b.set(0, 2, one[0]);
            b.set(0, 3, 9999);
            b.set(0, 4, 1);
            Due.due("not dead", b.egg(0, 4), NO);
            Due.due("its kind still", b.told(0, 0), 3);
            Due.due("its age still", b.told(0, 3), 9999);
            b.set(0, 5, 1);
            Due.due("egg at " + one[0], b.egg(0, 4), one[1]);
            int[] then = {4, 7, one[0], 0, 1, 0};
            for (int what = 0; what < 6; what++) {
                Due.due("egg: told " + what, b.told(0, what), then[what]);
            }
            Due.due("not dead any more", b.egg(0, 4), NO);
        }
        TurtleBet b = with(2, 7);
        b.set(0, 5, 1);
        Due.due("an egg of the same kind", b.egg(0, 2), 0);
        Due.due("none dead", b.count(1), 0);
    }
}
