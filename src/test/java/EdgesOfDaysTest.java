/** Promises 11 to 14 and what A DAY, a draw and LEADS are: at each bound, and on either side of it. */
public final class EdgesOfDaysTest {
    private static final int BAD = TurtleBet.BAD, NONE = TurtleBet.NONE;

    public static void main(String[] args) {
        dealsByRoom();
        dealsByLot();
        seeds();
        drawsWrap();
        howManyDays();
        lastDay();
        lastDayStepByStep();
        daysWithoutTurtles();
        ice();
        lives();
        ageAheadOfTheDay();
        deadOnes();
        turnedOnes();
        coldDays();
        drawsByNumbers();
        leads();
        leadsOfEight();
        Due.end();
    }

    private static int next(int z) {
        return z * 1103515245 + 12345;
    }

    private static TurtleBet with(int kind, int pace) {
        TurtleBet b = new TurtleBet();
        b.turtle(kind, pace);
        return b;
    }

    /** "n (1 .. 8) of them, as many as there is room for (no draws for others): how many came." */
    private static void dealsByRoom() {
        Edge.bounds("deal", 1, 8, Edge::some, (b, v) -> b.deal(v), v -> Math.min(v, 5));
        Edge.bounds("deal, none there", 1, 8, Edge::empty, (b, v) -> b.deal(v), v -> v);
        Edge.bounds("deal, no room", 1, 8, Edge::full, (b, v) -> b.deal(v), v -> 0);
        for (int there = 0; there <= 8; there++) {
            for (int n = 1; n <= 8; n++) {
                TurtleBet b = new TurtleBet();
                for (int i = 0; i < there; i++) {
                    b.turtle(1, 13);
                }
                int come = n < 8 - there ? n : 8 - there;
                int z = 1;
                for (int i = 0; i < 2 * come; i++) {
                    z = next(z);
                }
                Due.due("deal of " + n + " to " + there, b.deal(n), come);
                Due.due("how many", b.count(0), there + come);
                Due.due("two draws for each that came", b.count(11), z);
                Due.due("those that were there stay", there == 0 ? 13 : b.told(there - 1, 1), 13);
            }
        }
    }

    /** "TURTLES that are drawn: KIND the rest of a draw by 6, PACE that of one more by 21." */
    private static void dealsByLot() {
        boolean[] kinds = new boolean[6];
        boolean[] paces = new boolean[21];
        for (int seed = -300; seed < 300; seed++) {
            TurtleBet b = new TurtleBet();
            b.seed(seed * 7919);
            b.deal(1);
            int z = next(seed * 7919);
            int kind = (z >>> 8) % 6;
            int pace = (next(z) >>> 8) % 21;
            Due.due("kind by lot", b.told(0, 0), kind);
            Due.due("pace by lot", b.told(0, 1), pace);
            kinds[kind] = true;
            paces[pace] = true;
        }
        for (boolean came : kinds) {
            Due.isTrue("every kind comes", came);
        }
        for (boolean came : paces) {
            Due.isTrue("every pace comes", came);
        }
        TurtleBet b = new TurtleBet();
        b.deal(8);
        for (int what = 2; what <= 7; what++) {
            Due.due("by lot, at first " + what, b.told(7, what), 0);
        }
    }

    /** "z becomes v: what it was": any int. */
    private static void seeds() {
        TurtleBet b = new TurtleBet();
        int was = 1;
        for (int v : new int[] {0, -1, 1, Integer.MAX_VALUE, Integer.MIN_VALUE, TurtleBet.BAD, TurtleBet.NONE}) {
            Due.due("seed " + v, b.seed(v), was);
            Due.due("z", b.count(11), v);
            was = v;
        }
    }

    /** "z becomes z * 1103515245 + 12345 (an int); it gives z >>> 8": it wraps, and no draw is below 0. */
    private static void drawsWrap() {
        for (int z : new int[] {0, 1, -1, 2, Integer.MAX_VALUE, Integer.MIN_VALUE, 1103515245, 123456789, -987654321}) {
            TurtleBet b = with(4, 0);
            b.rule(1, 20);
            b.seed(z);
            b.days(1);
            Due.due("z behind " + z, b.count(11), next(z));
            Due.due("x behind " + z, b.told(0, 2), (next(z) >>> 8) % 10);
        }
        Due.isTrue("a z below 0 was among them", next(1103515245) < 0 || next(-1) < 0);
    }

    /** "n (1 .. 300) DAYS (no more than up to 9999): who LEADS then." */
    private static void howManyDays() {
        Edge.bounds("days", 1, 300, b -> b.turtle(0, 2), (b, v) -> b.days(v), v -> 0);
        for (int n : new int[] {1, 2, 299, 300}) {
            TurtleBet b = with(0, 2);
            b.days(n);
            Due.due("the day behind " + n, b.count(2), n);
            Due.due("the path behind " + n, b.told(0, 2), 2 * n);
            Due.due("the age behind " + n, b.told(0, 3), n);
        }
    }

    private static TurtleBet onDay(int day) {
        TurtleBet b = new TurtleBet();
        for (int gone = 0; gone + 300 <= day; gone += 300) {
            b.days(300);
        }
        if (day % 300 != 0) {
            b.days(day % 300);
        }
        Due.due("on day", b.count(2), day);
        b.turtle(0, 3);
        return b;
    }

    /** "THE DAY is 0 at first, 9999 at most." */
    private static void lastDay() {
        int[][] due = {{9698, 9998}, {9699, 9999}, {9700, 9999}, {9998, 9999}, {9999, 9999}};
        for (int[] one : due) {
            TurtleBet b = onDay(one[0]);
            Due.due("300 days from " + one[0], b.days(300), 0);
            Due.due("the day", b.count(2), one[1]);
            Due.due("the path", b.told(0, 2), 3 * (one[1] - one[0]));
            Due.due("the age", b.told(0, 3), one[1] - one[0]);
        }
    }

    private static void lastDayStepByStep() {
        TurtleBet b = onDay(9997);
        int[] days = {9998, 9999, 9999, 9999};
        int z = 1;
        for (int day : days) {
            z = day == b.count(2) ? z : next(z);
            Due.due("1 day more", b.days(1), 0);
            Due.due("the day", b.count(2), day);
            Due.due("the path", b.told(0, 2), 3 * (day - 9997));
            Due.due("z", b.count(11), z);
        }
        Due.due("days 0 on the last day", b.days(0), BAD);
        Due.due("days 301 on the last day", b.days(301), BAD);
    }

    /** "NONE: there are no TURTLES (THE DAYS go by all the same)." */
    private static void daysWithoutTurtles() {
        TurtleBet b = new TurtleBet();
        Due.due("leads", b.leads(), NONE);
        Due.due("1 day", b.days(1), NONE);
        Due.due("the day", b.count(2), 1);
        Due.due("300 days", b.days(300), NONE);
        Due.due("the day", b.count(2), 301);
        Due.due("no draws", b.count(11), 1);
        for (int i = 0; i < 33; i++) {
            Due.due("300 days", b.days(300), NONE);
        }
        Due.due("the last day", b.count(2), 9999);
        b.turtle(5, 0);
        Due.due("with one it leads", b.leads(), 0);
        Due.due("with one it leads on the last day", b.days(1), 0);
    }

    /** "it goes by its STEP by x (0, if there is ICE)", "there is ICE, if it is 60 or more". */
    private static void ice() {
        int[][] due = {{0, 7}, {58, 7}, {59, 7}, {60, 0}, {61, 0}, {99, 0}};
        for (int[] one : due) {
            TurtleBet b = with(0, 7);
            b.turtle(0, 7);
            b.set(1, 4, 1);
            b.rule(1, one[0]);
            b.days(1);
            Due.due("a day at " + one[0], b.told(0, 2), one[1]);
            Due.due("a day at " + one[0] + ", turned", b.told(1, 2), -one[1]);
            Due.due("behind a day at " + one[0], b.behind(0, 1, 0), 2 * one[1]);
            Due.due("a draw each", b.count(11), next(next(1)));
            Due.due("older", b.told(0, 3), 1);
            Due.due("the day", b.count(2), 1);
        }
        TurtleBet b = with(4, 20);
        b.rule(1, 60);
        b.rule(2, 2);
        b.days(3);
        Due.due("on ice one dies, too", b.told(0, 5), 1);
        Due.due("its path", b.told(0, 2), 0);
    }

    /** "AGE is 1 more; if AGE is LIFE or more then, it is DEAD." */
    private static void lives() {
        int[] lives = {1, 2, 5000, 9998, 9999};
        for (int life : lives) {
            for (int age = Math.max(0, life - 3); age <= Math.min(9999, life + 2); age++) {
                TurtleBet b = with(0, 5);
                b.rule(2, life);
                b.set(0, 3, age);
                Due.due("not dead ahead of the day", b.told(0, 5), 0);
                b.days(1);
                Due.due("age " + age + ", life " + life, b.told(0, 5), age + 1 >= life ? 1 : 0);
                Due.due("age", b.told(0, 3), age + 1);
                Due.due("it goes on its last day", b.told(0, 2), 5);
                Due.due("those dead", b.count(1), age + 1 >= life ? 1 : 0);
            }
        }
        TurtleBet b = with(0, 5);
        b.rule(2, 3);
        b.days(10);
        Due.due("three days of life", b.told(0, 2), 15);
        Due.due("three days old", b.told(0, 3), 3);
        Due.due("three draws", b.count(11), next(next(next(1))));
        Due.due("ten days", b.count(2), 10);
        b.rule(2, 4);
        Due.due("a longer life does not wake it", b.told(0, 5), 1);
        b.set(0, 5, 0);
        b.days(10);
        Due.due("a day more of life", b.told(0, 2), 20);
    }

    /** A STEP looks at AGE as it is before the DAY makes it more. */
    private static void ageAheadOfTheDay() {
        TurtleBet b = with(3, 20);
        b.set(0, 3, 998);
        int path = 0;
        int[] steps = {10, 10, 9, 9};
        for (int step : steps) {
            b.days(1);
            path += step;
            Due.due("an old one of age " + b.told(0, 3), b.told(0, 2), path);
        }
    }

    /** "of each TURTLE that is not DEAD": a DEAD one has no draw, stays and gets no older. */
    private static void deadOnes() {
        TurtleBet b = with(4, 0);
        b.turtle(4, 0);
        b.turtle(4, 0);
        b.rule(1, 20);
        b.set(1, 5, 1);
        b.set(1, 3, 9999);
        b.set(1, 2, 77);
        int z = next(1);
        int zero = (z >>> 8) % 10;
        z = next(z);
        int two = (z >>> 8) % 10;
        b.days(1);
        Due.due("0 by the first draw", b.told(0, 2), zero);
        Due.due("2 by the second", b.told(2, 2), two);
        Due.due("1 stays", b.told(1, 2), 77);
        Due.due("1 is no older", b.told(1, 3), 9999);
        Due.due("two draws", b.count(11), z);
        Due.due("one dead", b.count(1), 1);
        b.set(0, 5, 1);
        b.set(2, 5, 1);
        b.days(300);
        Due.due("all dead: no draws", b.count(11), z);
        Due.due("all dead: the day", b.count(2), 301);
        Due.due("all dead: three", b.count(1), 3);
    }

    /** "PATH is so much more (less, if it is TURNED)", "below 0, too". */
    private static void turnedOnes() {
        TurtleBet b = with(0, 1);
        b.set(0, 2, 1);
        b.set(0, 4, 1);
        int[] paths = {0, -1, -2};
        int[] laps = {0, -1, -1};
        int[] yards = {0, 99, 98};
        for (int i = 0; i < 3; i++) {
            b.days(1);
            Due.due("turned path", b.told(0, 2), paths[i]);
            Due.due("turned laps", b.told(0, 6), laps[i]);
            Due.due("turned yard", b.told(0, 7), yards[i]);
        }
        b.set(0, 4, 0);
        b.days(1);
        Due.due("about again", b.told(0, 2), -1);
    }

    /** QUICK and WILD ones go 3 more on DAYS below 20. */
    private static void coldDays() {
        int[][] due = {{19, 4 + 3}, {20, 4}, {21, 4}};
        for (int[] one : due) {
            TurtleBet b = with(2, 4);
            b.turtle(4, 4);
            b.rule(1, one[0]);
            b.days(1);
            Due.due("quick at " + one[0], b.told(0, 2), one[1]);
            Due.due("wild at " + one[0], b.told(1, 2), one[1] + (next(next(1)) >>> 8) % 10);
        }
    }

    /** "of each TURTLE .. by numbers: a draw": kinds that do not look at x draw, too. */
    private static void drawsByNumbers() {
        TurtleBet b = new TurtleBet();
        int[] kinds = {5, 4, 0, 4, 3, 4, 1, 4};
        for (int kind : kinds) {
            b.turtle(kind, 0);
        }
        b.rule(1, 20);
        int[] paths = new int[8];
        int z = 1;
        for (int day = 0; day < 5; day++) {
            for (int i = 0; i < 8; i++) {
                z = next(z);
                paths[i] += kinds[i] == 4 ? (z >>> 8) % 10 : 0;
            }
            b.days(1);
        }
        for (int i = 0; i < 8; i++) {
            Due.due("by numbers " + i, b.told(i, 2), paths[i]);
        }
        Due.due("40 draws", b.count(11), z);
    }

    /** "of TURTLES (DEAD ones, too) the one with the greatest PATH; of several the least." */
    private static void leads() {
        int[][] due = {{0, 0, 0}, {0, 1, 1}, {1, 0, 0}, {-1, 0, 1}, {0, -1, 0}, {-1, -1, 0}, {-2, -1, 1}, {-9999, 9999, 1},
            {9999, 9999, 0}, {9998, 9999, 1}, {9999, 9998, 0}};
        for (int[] one : due) {
            for (int dead = 0; dead < 4; dead++) {
                TurtleBet b = with(0, 0);
                b.turtle(0, 0);
                b.set(0, 2, one[0]);
                b.set(1, 2, one[1]);
                b.set(0, 5, dead & 1);
                b.set(1, 5, dead >> 1);
                Due.due("leads of " + one[0] + ", " + one[1], b.leads(), one[2]);
                Due.due("leads behind a day", b.days(1), one[2]);
            }
        }
    }

    private static void leadsOfEight() {
        for (int first = 0; first < 8; first++) {
            for (int second = first; second < 8; second++) {
                TurtleBet b = new TurtleBet();
                for (int i = 0; i < 8; i++) {
                    b.turtle(5, 0);
                    b.set(i, 2, i == first || i == second ? -5 : -6);
                }
                Due.due("leads of " + first + ", " + second, b.leads(), first);
                Due.due("thought", b.behind(7, 9, 2), first);
            }
        }
    }
}
