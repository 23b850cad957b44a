/** Promises 15 to 19: wagers, heirs, the pool, what is paid. */
public final class WagersTest {
    private static final int BAD = TurtleBet.BAD, FULL = TurtleBet.FULL;

    public static void main(String[] args) {
        wager();
        inherit();
        poolAndPays();
        payText();
        Due.end();
    }

    private static void wager() {
        TurtleBet b = new TurtleBet();
        Due.due("no turtle", b.wager(0, 0, 1), BAD);
        b.turtle(0, 1);
        b.turtle(0, 1);
        Due.due("owner -1", b.wager(-1, 0, 1), BAD);
        Due.due("owner 8", b.wager(8, 0, 1), BAD);
        Due.due("turtle 2", b.wager(0, 2, 1), BAD);
        Due.due("turtle -1", b.wager(0, -1, 1), BAD);
        Due.due("stake -1", b.wager(0, 0, -1), BAD);
        Due.due("stake 10000", b.wager(0, 0, 10000), BAD);
        Due.due("none", b.count(6), 0);
        for (int i = 0; i < 12; i++) {
            Due.due("wager", b.wager(i % 8, i % 2, i == 11 ? 9999 : i), i);
        }
        Due.due("thirteenth", b.wager(0, 0, 0), FULL);
        Due.due("thirteenth, bad", b.wager(8, 0, 0), BAD);
        Due.due("owner", b.wagerTold(9, 0), 1);
        Due.due("turtle", b.wagerTold(9, 1), 1);
        Due.due("stake", b.wagerTold(11, 2), 9999);
        Due.due("what 3", b.wagerTold(0, 3), BAD);
        Due.due("what -1", b.wagerTold(0, -1), BAD);
        Due.due("wager 12", b.wagerTold(12, 0), BAD);
        Due.due("wager -1", b.wagerTold(-1, 0), BAD);
    }

    private static void inherit() {
        TurtleBet b = new TurtleBet();
        b.turtle(0, 1);
        b.turtle(0, 1);
        b.wager(6, 1, 103);
        b.wager(0, 0, 2);
        Due.due("n 0", b.inherit(0, 0), BAD);
        Due.due("n 9", b.inherit(0, 9), BAD);
        Due.due("wager 2", b.inherit(2, 1), BAD);
        Due.due("wager -1", b.inherit(-1, 1), BAD);
        Due.due("n 1", b.inherit(0, 1), 2);
        Due.due("the same", b.wagerTold(0, 2), 103);
        Due.due("n 4", b.inherit(0, 4), 5);
        int[][] then = {{6, 1, 28}, {0, 0, 2}, {7, 1, 25}, {0, 1, 25}, {1, 1, 25}};
        for (int i = 0; i < then.length; i++) {
            for (int what = 0; what < 3; what++) {
                Due.due("heir " + i + " " + what, b.wagerTold(i, what), then[i][what]);
            }
        }
        Due.due("never a coin lost", b.pool(), 105);
        Due.due("less than n", b.inherit(1, 3), 7);
        Due.due("the first has all", b.wagerTold(1, 2), 2);
        Due.due("the others nothing", b.wagerTold(5, 2), 0);
        Due.due("13", b.inherit(0, 7), FULL);
        Due.due("13, bad", b.inherit(0, 9), BAD);
        Due.due("nothing changes", b.wagerTold(0, 2), 28);
        Due.due("12", b.inherit(0, 6), 12);
        Due.due("n 1 when full", b.inherit(0, 1), 12);
        Due.due("n 2 when full", b.inherit(0, 2), FULL);
        Due.due("pool", b.pool(), 105);
    }

    private static void poolAndPays() {
        TurtleBet b = new TurtleBet();
        b.turtle(0, 1);
        b.turtle(0, 1);
        b.turtle(0, 1);
        b.wager(0, 0, 7);
        b.wager(1, 0, 3);
        b.wager(0, 1, 90);
        b.wager(2, 2, 0);
        Due.due("pool", b.pool(), 100);
        Due.due("7 of 10", b.pays(0, 0), 70);
        Due.due("3 of 10", b.pays(1, 0), 30);
        Due.due("another one", b.pays(0, 1), 0);
        Due.due("alone", b.pays(2, 1), 100);
        Due.due("no stakes on it", b.pays(3, 2), 0);
        Due.due("wager 4", b.pays(4, 0), BAD);
        Due.due("wager -1", b.pays(-1, 0), BAD);
        Due.due("turtle 3", b.pays(0, 3), BAD);
        Due.due("turtle -1", b.pays(0, -1), BAD);
        b.wager(3, 2, 1);
        Due.due("0 of 1", b.pays(3, 2), 0);
        Due.due("cut: 101 * 7 / 10", b.pays(0, 0), 70);
        TurtleBet rich = new TurtleBet();
        rich.turtle(0, 1);
        for (int i = 0; i < 12; i++) {
            rich.wager(0, 0, 9999);
        }
        Due.due("rich pool", rich.pool(), 119988);
        Due.due("rich share", rich.pays(0, 0), 9999);
    }

    private static void payText() {
        TurtleBet b = new TurtleBet();
        b.turtle(0, 1);
        b.turtle(0, 1);
        b.wager(0, 0, 7);
        b.wager(1, 0, 3);
        b.wager(0, 1, 90);
        Due.due("text", Due.text(b, "pay w - s - t"), 0);
        Due.due("100 - 7 - 10", b.pays(0, 0), 83);
        Due.due("100 - 3 - 10", b.pays(1, 0), 87);
        Due.due("0 at least", b.pays(2, 1), 0);
        Due.due("another one all the same", b.pays(0, 1), 0);
        Due.due("text", Due.text(b, "pay 9999"), 1);
        Due.due("the pool at most", b.pays(0, 0), 100);
        Due.due("another one still", b.pays(2, 0), 0);
    }
}
