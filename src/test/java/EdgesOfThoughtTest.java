/** Promises 20 to 26, sentence by sentence: at each bound, and on either side of it. */
public final class EdgesOfThoughtTest {
    private static final int NONE = TurtleBet.NONE;

    public static void main(String[] args) {
        behindDays();
        behindAsDaysGo();
        behindOwners();
        beyondTheLastDay();
        toLapsBounds();
        toLapsDays();
        toLapsOrMore();
        toLapsOfSeveral();
        toLapsTurned();
        meetDays();
        meetYards();
        colderBounds();
        colderByIce();
        colderByText();
        stickBounds();
        stickOfSeveral();
        stickTurnedAndDead();
        pacedBounds();
        pacedPlaces();
        pacedSigns();
        pacedDies();
        fines();
        Due.end();
    }

    /** Turtles (kind 0) with a pace and a path each. */
    private static TurtleBet with(int... pacesAndPaths) {
        TurtleBet b = new TurtleBet();
        for (int i = 0; i < pacesAndPaths.length; i += 2) {
            b.turtle(0, pacesAndPaths[i]);
            b.set(i / 2, 2, pacesAndPaths[i + 1]);
        }
        return b;
    }

    /** "BEHIND n (0 .. 300) DAYS of a TURTLE". */
    private static void behindDays() {
        Edge.bounds("behind: path", 0, 300, b -> b.turtle(0, 7), (b, v) -> b.behind(0, v, 0), v -> 7 * v);
        Edge.bounds("behind: laps", 0, 300, b -> b.turtle(0, 7), (b, v) -> b.behind(0, v, 1), v -> 7 * v / 100);
        Edge.bounds("behind: who leads", 0, 300, Edge::some, (b, v) -> b.behind(0, v, 2));
        Edge.bounds("behind: paid", 0, 300, Edge::some, (b, v) -> b.behind(0, v, 10));
    }

    /** What is thought is what comes: the same draws, deaths, paths. */
    private static void behindAsDaysGo() {
        for (int n : new int[] {1, 2, 9, 300}) {
            TurtleBet b = Edge.made(Edge::some);
            TurtleBet gone = Edge.made(Edge::some);
            b.rule(2, 8);
            gone.rule(2, 8);
            int leads = gone.days(n);
            for (int i = 0; i < 3; i++) {
                Due.due("path behind " + n, b.behind(i, n, 0), gone.told(i, 2));
                Due.due("laps behind " + n, b.behind(i, n, 1), gone.told(i, 6));
                Due.due("who leads behind " + n, b.behind(i, n, 2), leads);
            }
            for (int owner = 0; owner < 8; owner++) {
                int paid = 0;
                for (int wager = 0; wager < 4; wager++) {
                    paid += gone.wagerTold(wager, 0) == owner ? gone.pays(wager, leads) : 0;
                }
                Due.due("paid to " + owner + " behind " + n, b.behind(0, n, 3 + owner), paid);
            }
        }
    }

    /** "3 and o: what OWNER o is PAID": what 3 .. 10. */
    private static void behindOwners() {
        TurtleBet b = with(5, 0, 6, -5);
        for (int owner = 0; owner < 8; owner++) {
            b.wager(owner, owner % 2, owner + 1);
        }
        b.wager(0, 1, 4);
        Due.due("the pool", b.pool(), 40);
        int[] now = {2, 0, 7, 0, 12, 0, 17, 0};
        int[] then = {6, 3, 0, 6, 0, 10, 0, 13};
        for (int owner = 0; owner < 8; owner++) {
            Due.due("paid now to " + owner, b.behind(1, 0, 3 + owner), now[owner]);
            Due.due("paid behind 5 days to " + owner, b.behind(1, 5, 3 + owner), now[owner]);
            Due.due("paid behind 6 days to " + owner, b.behind(0, 6, 3 + owner), then[owner]);
        }
        Due.due("without wagers", with(5, 0).behind(0, 0, 3), 0);
    }

    /** "without the bound of THE DAY". */
    private static void beyondTheLastDay() {
        for (int day : new int[] {9998, 9999}) {
            TurtleBet b = new TurtleBet();
            for (int i = 0; i < 33; i++) {
                b.days(300);
            }
            b.days(day - 9900);
            b.turtle(0, 10);
            b.turtle(0, 11);
            b.set(1, 2, -30);
            Due.due("behind 300 days from " + day, b.behind(0, 300, 0), 3000);
            Due.due("who leads behind 31 days", b.behind(0, 31, 2), 1);
            Due.due("to 30 laps", b.toLaps(30), 1);
            Due.due("meet", b.meet(0, 1), 30);
            Due.due("colder", b.colder(1, 31), 0);
            Due.due("stick", b.stick(1, 10), 21);
            b.sheet(0, 0, 3);
            b.mark(0, 1, 4);
            b.mark(0, 2, 8);
            Due.due("paced", b.paced(0, 0, 0), 4);
            Due.due("the day stays", b.count(2), day);
        }
    }

    /** "TO LAPS of n (0 .. 99)". */
    private static void toLapsBounds() {
        Edge.bounds("toLaps", 0, 99, Edge::some, (b, v) -> b.toLaps(v));
        Edge.bounds("toLaps without turtles", 0, 99, Edge::empty, (b, v) -> b.toLaps(v), v -> NONE);
        int[][] due = {{0, 0, 0}, {-1, 0, NONE}, {99, 1, NONE}, {100, 1, 0}, {101, 1, 0}, {9899, 99, NONE}, {9900, 99, 0},
            {9999, 99, 0}, {199, 2, NONE}, {200, 2, 0}};
        for (int[] one : due) {
            Due.due("path " + one[0] + " to laps of " + one[1], with(0, one[0]).toLaps(one[1]), one[2]);
        }
        TurtleBet b = with(0, 999);
        b.rule(0, 10);
        Due.due("99 laps of 10", b.toLaps(99), 0);
        b.set(0, 2, 989);
        Due.due("98 laps of 10", b.toLaps(99), NONE);
    }

    /** "(behind 0 .. 300 DAYS ..", "NONE: nobody by then." */
    private static void toLapsDays() {
        int[][] due = {{-300, 0}, {-301, NONE}, {-299, 0}, {0, 0}};
        for (int[] one : due) {
            Due.due("to 0 laps from " + one[0], with(1, one[0]).toLaps(0), one[1]);
        }
        Due.due("3 laps right behind 300 days", with(1, 0).toLaps(3), 0);
        Due.due("3 laps a day later", with(1, -1).toLaps(3), NONE);
        Due.due("60 laps right behind 300 days", with(20, 0).toLaps(60), 0);
        Due.due("61 laps", with(20, 0).toLaps(61), NONE);
        TurtleBet b = with(1, 0);
        b.rule(2, 100);
        Due.due("dead on its first lap", b.toLaps(1), 0);
        b.rule(2, 99);
        Due.due("dead a yard ahead of it", b.toLaps(1), NONE);
    }

    /** "n LAPS or more": one that has more of them now, and one that comes past n in a single DAY. */
    private static void toLapsOrMore() {
        int[] paths = {99, 100, 199, 200, 9999};
        int[] due = {NONE, 0, 0, 0, 0};
        for (int i = 0; i < paths.length; i++) {
            Due.due("path " + paths[i] + " to 1 lap", with(0, paths[i]).toLaps(1), due[i]);
        }
        Due.due("more laps are first, too", with(0, 100, 0, 300).toLaps(1), 1);
        TurtleBet b = with(20, 5);
        b.rule(0, 10);
        Due.due("past 1 lap in a day", b.toLaps(1), 0);
        b.set(0, 2, -15);
        Due.due("past 0 laps in a day", b.toLaps(0), 0);
    }

    /** "the TURTLE that has n LAPS or more first .. of several the one with the greatest PATH, of these the least". */
    private static void toLapsOfSeveral() {
        Due.due("the first, though others go farther", with(1, 99, 20, 0).toLaps(1), 0);
        Due.due("the same day: the greatest path", with(1, 99, 20, 85).toLaps(1), 1);
        Due.due("the same day, the same path", with(1, 99, 20, 80).toLaps(1), 0);
        Due.due("the same day, a yard less", with(1, 99, 19, 80).toLaps(1), 0);
        Due.due("the same day, a yard more", with(1, 99, 20, 81).toLaps(1), 1);
        Due.due("now: the greatest path", with(0, 100, 0, 101, 0, 101).toLaps(1), 1);
        Due.due("now: the greatest path, behind", with(0, 150, 0, 101, 0, 151).toLaps(1), 2);
        Due.due("the least of three", with(0, 100, 0, 100, 0, 100).toLaps(1), 0);
        TurtleBet b = with(0, 100, 0, 120);
        b.set(1, 5, 1);
        Due.due("a dead one, too", b.toLaps(1), 1);
    }

    /** A TURNED one loses laps; one that has them now has them first. */
    private static void toLapsTurned() {
        TurtleBet b = with(1, 100, 1, 0);
        b.set(0, 4, 1);
        Due.due("now", b.toLaps(1), 0);
        b.set(0, 2, 99);
        Due.due("not any more", b.toLaps(1), 1);
    }

    /** "behind how many DAYS (0 .. 300) their YARDS are alike first", "NONE: not by then." */
    private static void meetDays() {
        int[][] due = {{0, 0}, {1, 1}, {2, 2}, {299, 299}, {300, 300}, {301, NONE}};
        for (int[] one : due) {
            TurtleBet b = with(1, 0, 0, one[0]);
            b.rule(0, 999);
            Due.due("meet behind " + one[0], b.meet(0, 1), one[1]);
            Due.due("meet behind " + one[0], b.meet(1, 0), one[1]);
        }
        Due.due("never: the same pace", with(5, 0, 5, 1).meet(0, 1), NONE);
        Due.due("one with itself", with(5, 3).meet(0, 0), 0);
        Due.due("first, not again", with(2, 0, 0, 0).meet(0, 1), 0);
    }

    /** YARDS, not PATHS: they meet rounds apart, and below 0. */
    private static void meetYards() {
        Due.due("a lap apart now", with(0, 5, 0, 105).meet(0, 1), 0);
        Due.due("two laps below", with(0, 5, 0, -195).meet(0, 1), 0);
        Due.due("a yard off", with(0, 5, 0, -194).meet(0, 1), NONE);
        Due.due("99 apart, round", with(1, 1, 0, 0).meet(0, 1), 99);
        Due.due("over one another", with(2, 0, 0, 99).meet(0, 1), NONE);
        TurtleBet b = with(1, 0, 1, 3);
        b.set(0, 4, 1);
        Due.due("against one another, past", b.meet(0, 1), NONE);
        b.set(1, 2, 4);
        Due.due("against one another", b.meet(0, 1), 48);
    }

    /** "COLDER for a TURTLE, n (1 .. 60)": "the least COLD 0 .. 99 with which it LEADS behind n DAYS". */
    private static void colderBounds() {
        Edge.bounds("colder: n", 1, 60, Edge::some, (b, v) -> b.colder(0, v));
        for (int cold : new int[] {0, 19, 20, 59, 60, 99}) {
            TurtleBet b = with(10, 0, 0, 30);
            b.turtle(2, 8);
            b.rule(1, cold);
            Due.due("quick leads from 0 on", b.colder(2, 10), 0);
            Due.due("another one from 20 on", b.colder(0, 10), 20);
            Due.due("the third on ice", b.colder(1, 10), 60);
            Due.due("behind 2 days it leads at 0", b.colder(1, 2), 0);
            Due.due("the cold stays", b.count(4), cold);
        }
        Due.due("none is", with(1, 5, 1, 5).colder(1, 60), NONE);
        Due.due("the only one", with(0, -9999).colder(0, 1), 0);
        Due.due("1 day makes it even: the least leads", with(1, 0, 0, 1).colder(0, 1), 0);
        Due.due("1 day makes it even: the other on ice", with(1, 0, 0, 1).colder(1, 1), 60);
        Due.due("60 days make it even", with(1, -60, 0, 0).colder(0, 60), 0);
        Due.due("59 days do not", with(1, -60, 0, 0).colder(0, 59), NONE);
    }

    /** With ICE nobody goes: who LEADS now LEADS then. */
    private static void colderByIce() {
        TurtleBet b = with(0, 3, 20, 2);
        Due.due("on ice 0 leads", b.colder(0, 1), 60);
        b.set(0, 2, 2);
        Due.due("on ice the least leads", b.colder(0, 1), 60);
        b.set(0, 2, 1);
        Due.due("on ice it does not lead", b.colder(0, 1), NONE);
    }

    /** COLD by a TEXT: every COLD is tried, 59 the last without ICE. */
    private static void colderByText() {
        for (int cold : new int[] {0, 1, 2, 19, 20, 21, 38, 58, 59}) {
            TurtleBet b = with(1, 0, 2, 0);
            Due.text(b, "pace (p=1)*(c=" + cold + ")");
            Due.due("0 leads whatever", b.colder(0, 1), 0);
            TurtleBet other = with(1, 0, 2, 0);
            Due.text(other, "pace (p=2)*(c=" + cold + ")");
            Due.due("1 leads at " + cold, other.colder(1, 1), cold);
        }
        for (int cold : new int[] {60, 61, 99}) {
            TurtleBet b = with(1, 0, 2, 0);
            Due.text(b, "pace (p=2)*(c=" + cold + ")");
            Due.due("no step on ice at " + cold, b.colder(1, 1), NONE);
        }
        TurtleBet b = with(1, 0, 2, 0);
        Due.text(b, "pace (p=2)*(c>40)");
        Due.due("the least of several", b.colder(1, 7), 41);
    }

    /** "STICK for a TURTLE, n (0 .. 60)": "the least push (0 .. 99 yards more of PATH now)". */
    private static void stickBounds() {
        Edge.bounds("stick: n", 0, 60, Edge::some, (b, v) -> b.stick(0, v));
        int[][] due = {{0, 0}, {1, 1}, {2, 2}, {98, 98}, {99, 99}, {100, NONE}, {-1, 0}, {-9999, 0}};
        for (int[] one : due) {
            Due.due("to come even with " + one[0], with(0, 0, 0, one[0]).stick(0, 0), one[1]);
        }
        int[][] ahead = {{-1, 0}, {0, 1}, {1, 2}, {97, 98}, {98, 99}, {99, NONE}};
        for (int[] one : ahead) {
            Due.due("to go ahead of " + one[0], with(0, one[0], 0, 0).stick(1, 0), one[1]);
        }
        Due.due("60 days", with(0, 0, 1, 0).stick(0, 60), 60);
        Due.due("59 days", with(0, 0, 1, 0).stick(0, 59), 59);
        Due.due("60 days of 2", with(0, 0, 2, -21).stick(0, 60), 99);
        Due.due("a yard more", with(0, 0, 2, -20).stick(0, 60), NONE);
    }

    /** It LEADS of several only if it is the least of them. */
    private static void stickOfSeveral() {
        Due.due("even is enough ahead of greater numbers", with(0, 0, 0, 5, 0, 5).stick(0, 0), 5);
        Due.due("not behind a smaller one", with(0, 5, 0, 0, 0, 5).stick(1, 0), 6);
        Due.due("the last must be ahead of all", with(0, 5, 0, 7, 0, 0).stick(2, 0), 8);
        Due.due("who leads needs none", with(0, 5, 0, 7, 0, 0).stick(1, 0), 0);
        Due.due("alone", with(0, -9999).stick(0, 60), 0);
    }

    private static void stickTurnedAndDead() {
        TurtleBet b = with(2, 0, 0, 10);
        b.set(0, 4, 1);
        Due.due("a turned one goes away", b.stick(0, 10), 30);
        b.set(0, 5, 1);
        Due.due("a dead one stays", b.stick(0, 10), 10);
        b.set(0, 5, 0);
        b.rule(2, 3);
        Due.due("it dies behind 3 days", b.stick(0, 10), 16);
        b.rule(1, 60);
        Due.due("ice", b.stick(0, 10), 10);
    }

    /** "the PACE 0 .. 20 with which .. differ least (signs left out), together; of several the least." */
    private static void pacedBounds() {
        for (int pace = 0; pace <= 20; pace++) {
            TurtleBet b = with(9, 0);
            b.sheet(0, 0, 2);
            b.mark(0, 1, pace);
            Due.due("paced " + pace, b.paced(0, 0, 0), pace);
            Due.due("paced " + pace + ": differences", b.paced(0, 0, 1), 0);
        }
        int[][] due = {{-1, 0, 1}, {-99, 0, 99}, {21, 20, 1}, {99, 20, 79}, {32767, 20, 32747}, {-32768, 0, 32768}};
        for (int[] one : due) {
            TurtleBet b = with(9, 0);
            b.sheet(0, 0, 2);
            b.mark(0, 1, one[0]);
            Due.due("paced to " + one[0], b.paced(0, 0, 0), one[1]);
            Due.due("paced to " + one[0] + ": differences", b.paced(0, 0, 1), one[2]);
        }
        TurtleBet b = with(9, 0);
        b.turns(0, 1);
        b.sheet(0, 0, 2);
        b.mark(0, 1, 6);
        Due.due("slow: 12 and 13 step alike", b.paced(0, 0, 0), 12);
        b.turns(0, 5);
        Due.due("stone: all step alike", b.paced(0, 0, 0), 0);
        Due.due("stone: differences", b.paced(0, 0, 1), 6);
    }

    /** "places k that are numbers (k from 0 on)": place 0 is now; none, one, 24 of them; NO NUMBER is left out. */
    private static void pacedPlaces() {
        TurtleBet b = with(9, 40);
        b.sheet(0, 0, 0);
        Due.due("no places", b.paced(0, 0, 0), 0);
        Due.due("no places: differences", b.paced(0, 0, 1), 0);
        b.sheet(0, 0, 1);
        b.mark(0, 0, 43);
        Due.due("place 0 is now: all alike", b.paced(0, 0, 0), 0);
        Due.due("place 0 is now: differences", b.paced(0, 0, 1), 3);
        b.sheet(1, 1, 24);
        for (int k = 0; k < 24; k++) {
            b.mark(1, k, (40 + 20 * k) % 100);
        }
        Due.due("24 places", b.paced(1, 0, 0), 20);
        Due.due("24 places: differences", b.paced(1, 0, 1), 0);
        b.mark(1, 23, 99);
        Due.due("the last place counts", b.paced(1, 0, 1), 99);
        b.mark(1, 23, NONE);
        Due.due("no number does not", b.paced(1, 0, 1), 0);
        for (int k = 0; k < 24; k++) {
            b.mark(1, k, NONE);
        }
        Due.due("no numbers at all", b.paced(1, 0, 0), 0);
        Due.due("no numbers at all: differences", b.paced(1, 0, 1), 0);
        b.mark(1, 3, 79);
        Due.due("k is the place, not the how manieth number", b.paced(1, 0, 0), 13);
        for (int k = 0; k < 24; k++) {
            b.mark(1, k, -99999);
        }
        b.set(0, 2, 0);
        Due.due("the greatest differences", b.paced(1, 0, 1), 24 * 99999);
    }

    /** "signs left out", "of several the least". */
    private static void pacedSigns() {
        TurtleBet b = with(9, 0);
        b.sheet(0, 0, 3);
        b.mark(0, 1, 6);
        b.mark(0, 2, 10);
        Due.due("5: 1, 0; 6: 0, 2", b.paced(0, 0, 0), 5);
        Due.due("5: 1", b.paced(0, 0, 1), 1);
        b.mark(0, 2, 11);
        Due.due("5: 1, 1; 6: 0, 1", b.paced(0, 0, 0), 6);
        b.mark(0, 1, 5);
        b.mark(0, 2, 13);
        Due.due("6: 1, 1; 7: 2, 1; 5: 0, 3", b.paced(0, 0, 0), 6);
        b.mark(0, 1, 4);
        Due.due("6: 2, 1; 7: 3, 1", b.paced(0, 0, 1), 3);
        b.rule(0, 10);
        b.mark(0, 1, 1);
        b.mark(0, 2, 2);
        Due.due("1 and 11 are alike, round", b.paced(0, 0, 0), 1);
        b.mark(0, 1, 10);
        b.mark(0, 2, 0);
        Due.due("a yard is never 10: 5, 0 is nearer than 9, 8", b.paced(0, 0, 0), 5);
        Due.due("a yard is never 10: differences", b.paced(0, 0, 1), 5);
    }

    /** PACE in thought is that of this TURTLE alone, and it dies by its LIFE. */
    private static void pacedDies() {
        TurtleBet b = with(9, 0, 4, 0);
        b.sheet(0, 0, 5);
        int[] yards = {0, 7, 14, 14, 14};
        for (int k = 0; k < 5; k++) {
            b.mark(0, k, yards[k]);
        }
        b.rule(2, 2);
        Due.due("it dies behind 2 days", b.paced(0, 0, 0), 7);
        Due.due("it dies behind 2 days: differences", b.paced(0, 0, 1), 0);
        Due.due("paces stay", b.told(0, 1) + b.told(1, 1), 13);
        Due.text(b, "pace p/2");
        Due.due("by a text", b.paced(0, 0, 0), 14);
    }

    /** "What fine gives for a TURTLE" is not held; "without a TEXT: LAPS". */
    private static void fines() {
        TurtleBet b = with(20, -101);
        Due.due("laps", b.fine(0), -2);
        String[] gives = {"0-9999*9999", "0-1", "0", "9999*9999", "l", "p", "l*p", "9999*9999*22"};
        int[] due = {-99980001, -1, 0, 99980001, -2, 20, -40, 9999 * 9999 * 22};
        for (int i = 0; i < gives.length; i++) {
            Due.text(b, "fine " + gives[i]);
            Due.due("fine " + gives[i], b.fine(0), due[i]);
        }
    }
}
