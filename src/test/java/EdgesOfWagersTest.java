/** Promises 15 to 19, sentence by sentence: at each bound, and on either side of it. */
public final class EdgesOfWagersTest {
    private static final int BAD = TurtleBet.BAD, FULL = TurtleBet.FULL;

    public static void main(String[] args) {
        twelveAtMost();
        stakes();
        heirsByNumber();
        heirsUpToTwelve();
        heirsOfSmallStakes();
        ownersRound();
        pools();
        paysOnAnother();
        paysCut();
        paysWithoutStakes();
        paysHeld();
        paysByNames();
        Due.end();
    }

    private static TurtleBet two() {
        TurtleBet b = new TurtleBet();
        b.turtle(0, 0);
        b.turtle(0, 0);
        return b;
    }

    private static TurtleBet with(int... stakesOnZero) {
        TurtleBet b = two();
        for (int stake : stakesOnZero) {
            b.wager(0, 0, stake);
        }
        return b;
    }

    /** "WAGERS, 12 at most, numbered from 0": the twelfth comes, the thirteenth is refused. */
    private static void twelveAtMost() {
        TurtleBet b = two();
        for (int i = 0; i < 12; i++) {
            Due.due("not there yet", b.wagerTold(i, 2), BAD);
            Due.due("wager", b.wager(i % 8, i % 2, 100 + i), i);
            Due.due("how many", b.count(6), i + 1);
            int[] told = {i % 8, i % 2, 100 + i};
            for (int what = 0; what < 3; what++) {
                Due.due("wager told " + what, b.wagerTold(i, what), told[what]);
            }
        }
        Due.due("the thirteenth", b.wager(0, 0, 0), FULL);
        Due.due("how many", b.count(6), 12);
        Due.due("no wager 12", b.wagerTold(12, 2), BAD);
        Due.due("the pool", b.pool(), 1266);
    }

    /** "a STAKE 0 .. 9999". */
    private static void stakes() {
        Edge.bounds("stake", 0, 9999, Edge::some, (b, v) -> b.wager(1, 1, v), v -> 4);
        for (int stake : new int[] {0, 1, 9998, 9999}) {
            Due.due("its stake", with(stake).wagerTold(0, 2), stake);
            Due.due("the pool", with(stake).pool(), stake);
        }
    }

    /** "INHERITING of a WAGER by n (1 .. 8)": "STAKE / n (cut) each, the first has the rest besides". */
    private static void heirsByNumber() {
        Edge.bounds("inherit", 1, 8, b -> {
            b.turtle(0, 0);
            b.wager(0, 0, 100);
        }, (b, v) -> b.inherit(0, v), v -> v);
        int[] first = {100, 50, 34, 25, 20, 20, 16, 16};
        int[] others = {0, 50, 33, 25, 20, 16, 14, 12};
        for (int n = 1; n <= 8; n++) {
            TurtleBet b = two();
            b.wager(0, 0, 7);
            b.wager(5, 1, 100);
            b.wager(0, 0, 9);
            Due.due("inherit by " + n, b.inherit(1, n), 2 + n);
            Due.due("it keeps its number", b.wagerTold(1, 2), first[n - 1]);
            Due.due("its owner", b.wagerTold(1, 0), 5);
            for (int heir = 1; heir < n; heir++) {
                Due.due("behind all: its stake", b.wagerTold(2 + heir, 2), others[n - 1]);
                Due.due("behind all: its owner", b.wagerTold(2 + heir, 0), (5 + heir) % 8);
                Due.due("behind all: the same turtle", b.wagerTold(2 + heir, 1), 1);
            }
            Due.due("no more of them", b.wagerTold(2 + n, 0), BAD);
            Due.due("others stay", b.wagerTold(0, 2) + b.wagerTold(2, 2), 16);
            Due.due("never a coin lost", b.pool(), 116);
            Due.due("how many", b.count(6), 2 + n);
        }
    }

    /** "FULL: there would be more than 12." */
    private static void heirsUpToTwelve() {
        for (int there = 1; there <= 12; there++) {
            for (int n = 1; n <= 8; n++) {
                TurtleBet b = two();
                for (int i = 0; i < there; i++) {
                    b.wager(1, 0, 50);
                }
                boolean fits = there + n - 1 <= 12;
                Due.due(there + " wagers, " + n + " heirs", b.inherit(there - 1, n), fits ? there + n - 1 : FULL);
                Due.due("how many", b.count(6), fits ? there + n - 1 : there);
                Due.due("the pool", b.pool(), 50 * there);
                Due.due("its stake", b.wagerTold(there - 1, 2), fits ? 50 / n + 50 % n : 50);
            }
        }
    }

    /** STAKES of 0, of 1, right below n, of n, right above n, the greatest. */
    private static void heirsOfSmallStakes() {
        int[][] due = {{0, 3, 0, 0}, {1, 8, 1, 0}, {2, 3, 2, 0}, {3, 3, 1, 1}, {4, 3, 2, 1}, {5, 3, 3, 1}, {6, 3, 2, 2},
            {7, 8, 7, 0}, {8, 8, 1, 1}, {9, 8, 2, 1}, {15, 8, 8, 1}, {16, 8, 2, 2}, {9999, 2, 5000, 4999},
            {9999, 8, 1256, 1249}, {9999, 1, 9999, BAD}};
        for (int[] one : due) {
            TurtleBet b = with(one[0]);
            b.inherit(0, one[1]);
            Due.due(one[0] + " by " + one[1] + ": the first", b.wagerTold(0, 2), one[2]);
            for (int heir = 1; heir < one[1]; heir++) {
                Due.due(one[0] + " by " + one[1] + ": another", b.wagerTold(heir, 2), one[3]);
            }
            Due.due("no more of them", b.wagerTold(one[1], 2), BAD);
            Due.due("never a coin lost", b.pool(), one[0]);
        }
        Edge.keepsAll("by 1 all stays", Edge::some, b -> b.inherit(0, 1), 4);
    }

    /** "of OWNERS by numbers from its own on, round." */
    private static void ownersRound() {
        for (int owner = 0; owner < 8; owner++) {
            TurtleBet b = two();
            b.wager(owner, 0, 80);
            b.inherit(0, 8);
            int next = owner;
            for (int heir = 0; heir < 8; heir++) {
                Due.due("owner of heir " + heir + " from " + owner, b.wagerTold(heir, 0), next);
                next = next == 7 ? 0 : next + 1;
            }
        }
    }

    /** "THE POOL: STAKES of all WAGERS, together." */
    private static void pools() {
        Due.due("no wagers", new TurtleBet().pool(), 0);
        Due.due("no stakes", with(0, 0).pool(), 0);
        TurtleBet b = two();
        for (int i = 1; i <= 12; i++) {
            b.wager(i % 8, i % 2, 9999);
            Due.due("the pool of " + i, b.pool(), 9999 * i);
        }
    }

    /** "PAYS for a WAGER with a TURTLE ahead: 0, if it is on another one". */
    private static void paysOnAnother() {
        TurtleBet b = with(10);
        b.wager(0, 1, 30);
        Due.due("on it", b.pays(0, 0), 40);
        Due.due("on another one", b.pays(0, 1), 0);
        Due.due("on it", b.pays(1, 1), 40);
        Due.due("on another one", b.pays(1, 0), 0);
        Due.text(b, "pay 7");
        Due.due("on it, by a text", b.pays(0, 0), 7);
        Due.due("on another one, by a text", b.pays(0, 1), 0);
        b.set(0, 5, 1);
        Due.due("on a dead one", b.pays(0, 0), 7);
    }

    /** "THE POOL times its STAKE / STAKES of all WAGERS on that TURTLE, cut, as a long". */
    private static void paysCut() {
        int[][] due = {{1, 2, 0, 1, 2}, {1, 2, 1, 1, 2}, {1, 2, 2, 1, 3}, {1, 2, 3, 2, 4}, {1, 1, 1, 1, 1}, {1, 1, 2, 2, 2},
            {9999, 9999, 9999, 14998, 14998}, {9999, 1, 0, 9999, 1}, {9999, 1, 9999, 19997, 1}, {0, 5, 5, 0, 10}};
        for (int[] one : due) {
            TurtleBet b = with(one[0], one[1]);
            b.wager(3, 1, one[2]);
            Due.due(one[0] + " and " + one[1] + " with " + one[2], b.pays(0, 0), one[3]);
            Due.due(one[1] + " and " + one[0] + " with " + one[2], b.pays(1, 0), one[4]);
        }
        TurtleBet b = two();
        b.wager(0, 0, 9999);
        for (int i = 1; i < 12; i++) {
            b.wager(0, 1, 9999);
        }
        Due.due("the greatest pool", b.pays(0, 0), 119988);
        Due.due("an eleventh of it", b.pays(11, 1), 10908);
    }

    /** "0, if these are 0". */
    private static void paysWithoutStakes() {
        TurtleBet b = with(0, 0);
        Due.due("no stakes at all", b.pays(0, 0), 0);
        b.wager(0, 1, 50);
        Due.due("stakes on another one alone", b.pays(1, 0), 0);
        b.wager(0, 0, 1);
        Due.due("a stake of 1 with them", b.pays(3, 0), 51);
        Due.due("a stake of 0 beside it", b.pays(0, 0), 0);
    }

    /** "else what pay gives, held within 0 .. THE POOL". */
    private static void paysHeld() {
        String[] gives = {"0-9999", "0-1", "0", "1", "w-1", "w", "w+1", "9999", "9999*9999*9", "9999*9999*22"};
        int[] held = {0, 0, 0, 1, 99, 100, 100, 100, 100, 0};
        for (int i = 0; i < gives.length; i++) {
            TurtleBet b = with(60, 40);
            Due.due("text", Due.text(b, "pay " + gives[i]), 0);
            Due.due("pay " + gives[i], b.pays(0, 0), held[i]);
            Due.due("paid to owner 0", b.behind(0, 0, 3), 2 * held[i]);
        }
        TurtleBet b = with(0, 0);
        Due.text(b, "pay 5");
        Due.due("an empty pool", b.pays(0, 0), 0);
        b.wager(0, 1, 4);
        Due.due("a stake of 0 may be paid by a text", b.pays(0, 0), 4);
    }

    /** "w THE POOL, s its STAKE, t STAKES on that TURTLE, together". */
    private static void paysByNames() {
        String[] names = {"w", "s", "t"};
        int[][] due = {{107, 60, 100}, {107, 40, 100}, {107, 7, 7}};
        for (int name = 0; name < 3; name++) {
            TurtleBet b = with(60, 40);
            b.wager(7, 1, 7);
            Due.text(b, "pay " + names[name]);
            for (int wager = 0; wager < 3; wager++) {
                Due.due("pay " + names[name], b.pays(wager, wager / 2), due[wager][name]);
            }
        }
    }
}
