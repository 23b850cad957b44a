/** Promises 1 to 14: a new object, turtles, rules, draws, days. */
public final class TurtlesTest {
    private static final int BAD = TurtleBet.BAD, NO = TurtleBet.NO, FULL = TurtleBet.FULL,
            NONE = TurtleBet.NONE, KIND = TurtleBet.KIND;

    public static void main(String[] args) {
        newObject();
        turtle();
        told();
        step();
        as();
        turns();
        set();
        push();
        egg();
        rule();
        deal();
        seed();
        days();
        daysEdges();
        leads();
        Due.end();
    }

    private static void newObject() {
        TurtleBet b = new TurtleBet();
        int[] counts = {0, 0, 0, 100, 10, 5000, 0, 0, 0, 0, 0, 1};
        for (int what = 0; what < counts.length; what++) {
            Due.due("new: count " + what, b.count(what), counts[what]);
        }
        Due.due("new: leads", b.leads(), NONE);
        Due.due("new: pool", b.pool(), 0);
        for (int i = 0; i < 4; i++) {
            Due.due("new: sheet missing", b.reads(i), TurtleBet.NOTHING);
        }
        for (int i = 0; i < 5; i++) {
            Due.due("new: slot holds nothing", b.rest(i, 1), TurtleBet.NOTHING);
        }
        for (int key = 0; key < 3; key++) {
            Due.due("new: why", b.why(key), NONE);
        }
        Due.due("new: back", b.back(), NO);
        Due.due("new: told", b.told(0, 0), BAD);
    }

    private static void turtle() {
        TurtleBet b = new TurtleBet();
        Due.due("turtle kind -1", b.turtle(-1, 0), BAD);
        Due.due("turtle kind 6", b.turtle(6, 0), BAD);
        Due.due("turtle pace -1", b.turtle(0, -1), BAD);
        Due.due("turtle pace 21", b.turtle(0, 21), BAD);
        Due.due("none came", b.count(0), 0);
        for (int i = 0; i < 8; i++) {
            Due.due("turtle", b.turtle(i % 6, i == 7 ? 20 : 0), i);
        }
        Due.due("ninth", b.turtle(0, 0), FULL);
        Due.due("ninth, bad", b.turtle(6, 0), BAD);
        Due.due("eight", b.count(0), 8);
        Due.due("kind of 5", b.told(5, 0), 5);
        Due.due("pace of 7", b.told(7, 1), 20);
        for (int what = 2; what <= 7; what++) {
            Due.due("fresh " + what, b.told(7, what), 0);
        }
    }

    private static void told() {
        TurtleBet b = new TurtleBet();
        int[] worth = {7, 37, 43, 74, 35, 1};
        for (int kind = 0; kind < 6; kind++) {
            b.turtle(kind, 7);
            Due.due("kind", b.told(kind, 0), kind);
            Due.due("pace", b.told(kind, 1), 7);
            Due.due("worth of kind " + kind, b.told(kind, 8), worth[kind]);
        }
        b.set(0, 2, -1);
        Due.due("path", b.told(0, 2), -1);
        Due.due("laps below 0", b.told(0, 6), -1);
        Due.due("yard below 0", b.told(0, 7), 99);
        b.set(0, 2, -100);
        Due.due("laps at -100", b.told(0, 6), -1);
        Due.due("yard at -100", b.told(0, 7), 0);
        b.set(0, 2, 299);
        Due.due("laps at 299", b.told(0, 6), 2);
        Due.due("yard at 299", b.told(0, 7), 99);
        b.rule(0, 10);
        Due.due("laps of 10 yards", b.told(0, 6), 29);
        Due.due("yard of 10 yards", b.told(0, 7), 9);
        Due.due("what -1", b.told(0, -1), BAD);
        Due.due("what 9", b.told(0, 9), BAD);
        Due.due("turtle -1", b.told(-1, 0), BAD);
        Due.due("turtle 6", b.told(6, 0), BAD);
    }

    private static void step() {
        TurtleBet b = new TurtleBet();
        for (int kind = 0; kind < 6; kind++) {
            b.turtle(kind, 9);
        }
        int[] cold = {9, 4, 12, 4, 17, 0};
        for (int kind = 0; kind < 6; kind++) {
            Due.due("step of kind " + kind, b.step(kind, 5), cold[kind]);
        }
        b.rule(1, 19);
        Due.due("quick at 19", b.step(2, 0), 12);
        b.rule(1, 20);
        Due.due("quick at 20", b.step(2, 0), 9);
        Due.due("wild at 20", b.step(4, 9), 18);
        b.rule(1, 99);
        Due.due("ice does not matter", b.step(0, 0), 9);
        b.set(3, 3, 999);
        Due.due("old at 999", b.step(3, 0), 4);
        b.set(3, 3, 1000);
        Due.due("old at 1000", b.step(3, 0), 3);
        b.set(3, 3, 5000);
        Due.due("old, 0 at least", b.step(3, 0), 0);
        b.set(0, 5, 1);
        Due.due("dead ones step too", b.step(0, 0), 9);
        Due.due("x -1", b.step(0, -1), BAD);
        Due.due("x 10", b.step(0, 10), BAD);
        Due.due("turtle 6", b.step(6, 0), BAD);
        Due.due("turtle -1", b.step(-1, 0), BAD);
        Due.due("nothing drawn", b.count(11), 1);
    }

    private static void as() {
        int[][] are = {{0}, {0, 1}, {0, 2}, {0, 1, 3}, {0, 2, 4}, {0, 5}};
        TurtleBet b = new TurtleBet();
        for (int kind = 0; kind < 6; kind++) {
            b.turtle(kind, 10 + kind);
            for (int other = 0; other < 6; other++) {
                boolean is = false;
                for (int one : are[kind]) {
                    is |= one == other;
                }
                Due.due("as " + kind + " " + other, b.as(kind, other), is ? 10 + kind : KIND);
            }
        }
        Due.due("as kind -1", b.as(0, -1), BAD);
        Due.due("as kind 6", b.as(0, 6), BAD);
        Due.due("as turtle 6", b.as(6, 0), BAD);
        Due.due("as turtle -1", b.as(-1, 0), BAD);
    }

    private static void turns() {
        TurtleBet b = new TurtleBet();
        b.turtle(3, 8);
        b.set(0, 2, 55);
        b.set(0, 3, 66);
        Due.due("turns", b.turns(0, 5), 3);
        Due.due("turns again", b.turns(0, 4), 5);
        Due.due("kind then", b.told(0, 0), 4);
        Due.due("path stays", b.told(0, 2), 55);
        Due.due("age stays", b.told(0, 3), 66);
        Due.due("pace stays", b.told(0, 1), 8);
        Due.due("turns to 6", b.turns(0, 6), BAD);
        Due.due("turns to -1", b.turns(0, -1), BAD);
        Due.due("turns of 1", b.turns(1, 0), BAD);
        Due.due("kind still", b.told(0, 0), 4);
    }

    private static void set() {
        TurtleBet b = new TurtleBet();
        b.turtle(0, 3);
        int[] least = {0, -9999, 0, 0, 0};
        int[] most = {20, 9999, 9999, 1, 1};
        for (int what = 1; what <= 5; what++) {
            int was = b.told(0, what);
            Due.due("set most " + what, b.set(0, what, most[what - 1]), was);
            Due.due("above " + what, b.set(0, what, most[what - 1] + 1), BAD);
            Due.due("is most " + what, b.told(0, what), most[what - 1]);
            Due.due("set least " + what, b.set(0, what, least[what - 1]), most[what - 1]);
            Due.due("below " + what, b.set(0, what, least[what - 1] - 1), BAD);
            Due.due("is least " + what, b.told(0, what), least[what - 1]);
        }
        Due.due("set kind", b.set(0, 0, 1), BAD);
        Due.due("set laps", b.set(0, 6, 1), BAD);
        Due.due("set of 1", b.set(1, 1, 1), BAD);
        Due.due("set of -1", b.set(-1, 1, 1), BAD);
        b.set(0, 3, 9999);
        Due.due("age alone does not kill", b.told(0, 5), 0);
    }

    private static void push() {
        TurtleBet b = new TurtleBet();
        b.turtle(0, 3);
        Due.due("push 99", b.push(0, 99), 99);
        Due.due("push 2", b.push(0, 2), 1);
        Due.due("path", b.told(0, 2), 101);
        Due.due("push -99", b.push(0, -99), 2);
        Due.due("push -3", b.push(0, -3), 99);
        Due.due("path", b.told(0, 2), -1);
        Due.due("push 100", b.push(0, 100), BAD);
        Due.due("push -100", b.push(0, -100), BAD);
        Due.due("push of 1", b.push(1, 1), BAD);
        Due.due("path still", b.told(0, 2), -1);
        b.set(0, 2, 9999);
        b.push(0, 99);
        Due.due("path has no bound", b.told(0, 2), 10098);
        b.set(0, 5, 1);
        b.set(0, 4, 1);
        Due.due("a dead, turned one is pushed alike", b.push(0, 1), 99);
    }

    private static void egg() {
        TurtleBet b = new TurtleBet();
        b.turtle(0, 3);
        b.set(0, 2, -150);
        b.set(0, 3, 77);
        b.set(0, 4, 1);
        Due.due("not dead", b.egg(0, 2), NO);
        Due.due("not dead, bad", b.egg(0, 6), BAD);
        b.set(0, 5, 1);
        Due.due("kind 6", b.egg(0, 6), BAD);
        Due.due("kind -1", b.egg(0, -1), BAD);
        Due.due("turtle 1", b.egg(1, 0), BAD);
        Due.due("still dead", b.told(0, 5), 1);
        Due.due("egg", b.egg(0, 2), -2);
        int[] then = {2, 3, -150, 0, 1, 0};
        for (int what = 0; what < then.length; what++) {
            Due.due("egg " + what, b.told(0, what), then[what]);
        }
    }

    private static void rule() {
        TurtleBet b = new TurtleBet();
        int[] first = {100, 10, 5000};
        int[] least = {10, 0, 1};
        int[] most = {999, 99, 9999};
        for (int what = 0; what < 3; what++) {
            Due.due("rule most", b.rule(what, most[what]), first[what]);
            Due.due("rule above", b.rule(what, most[what] + 1), BAD);
            Due.due("is most", b.count(3 + what), most[what]);
            Due.due("rule least", b.rule(what, least[what]), most[what]);
            Due.due("rule below", b.rule(what, least[what] - 1), BAD);
            Due.due("is least", b.count(3 + what), least[what]);
        }
        Due.due("rule -1", b.rule(-1, 50), BAD);
        Due.due("rule 3", b.rule(3, 50), BAD);
        b.turtle(0, 1);
        b.set(0, 3, 10);
        b.rule(2, 5);
        Due.due("a rule alone does not kill", b.told(0, 5), 0);
    }

    private static void deal() {
        TurtleBet b = new TurtleBet();
        Due.due("deal 0", b.deal(0), BAD);
        Due.due("deal 9", b.deal(9), BAD);
        Due.due("no draws", b.count(11), 1);
        b.turtle(0, 0);
        Due.due("deal 3", b.deal(3), 3);
        int z = 1;
        for (int i = 1; i <= 3; i++) {
            z = z * 1103515245 + 12345;
            Due.due("drawn kind", b.told(i, 0), (z >>> 8) % 6);
            z = z * 1103515245 + 12345;
            Due.due("drawn pace", b.told(i, 1), (z >>> 8) % 21);
        }
        Due.due("z", b.count(11), z);
        Due.due("room for 4", b.deal(8), 4);
        for (int i = 0; i < 8; i++) {
            z = z * 1103515245 + 12345;
        }
        Due.due("z for 4 more", b.count(11), z);
        Due.due("no room", b.deal(1), 0);
        Due.due("z stays", b.count(11), z);
    }

    private static void seed() {
        TurtleBet b = new TurtleBet();
        Due.due("seed", b.seed(Integer.MIN_VALUE), 1);
        Due.due("seed", b.seed(Integer.MAX_VALUE), Integer.MIN_VALUE);
        Due.due("seed", b.seed(0), Integer.MAX_VALUE);
        b.turtle(4, 0);
        b.days(1);
        Due.due("z", b.count(11), 12345);
        Due.due("x of 12345 >>> 8 = 48", b.told(0, 2), 11);
    }

    private static void days() {
        TurtleBet b = new TurtleBet();
        b.turtle(0, 5);
        b.turtle(4, 2);
        b.turtle(1, 7);
        b.set(2, 4, 1);
        b.turtle(0, 20);
        b.set(3, 5, 1);
        b.rule(2, 3);
        int z = 1;
        int wild = 0;
        for (int day = 0; day < 3; day++) {
            z = z * 1103515245 + 12345;
            z = z * 1103515245 + 12345;
            wild += 2 + 3 + (z >>> 8) % 10;
            z = z * 1103515245 + 12345;
        }
        Due.due("days", b.days(3), wild > 15 ? 1 : 0);
        Due.due("path", b.told(0, 2), 15);
        Due.due("wild path", b.told(1, 2), wild);
        Due.due("turned path", b.told(2, 2), -9);
        Due.due("a dead one stays", b.told(3, 2), 0);
        Due.due("a dead one is not older", b.told(3, 3), 0);
        Due.due("no draw for the dead one", b.count(11), z);
        Due.due("age", b.told(0, 3), 3);
        Due.due("all dead at life", b.count(1), 4);
        Due.due("the day", b.count(2), 3);
        b.days(2);
        Due.due("no more draws", b.count(11), z);
        Due.due("the day goes on", b.count(2), 5);
        Due.due("age stays", b.told(0, 3), 3);
    }

    private static void daysEdges() {
        TurtleBet b = new TurtleBet();
        Due.due("days 0", b.days(0), BAD);
        Due.due("days 301", b.days(301), BAD);
        Due.due("days -1", b.days(-1), BAD);
        Due.due("no day", b.count(2), 0);
        Due.due("no turtles", b.days(300), NONE);
        Due.due("days go by", b.count(2), 300);
        for (int i = 0; i < 32; i++) {
            b.days(300);
        }
        Due.due("day 9900", b.count(2), 9900);
        b.turtle(0, 1);
        Due.due("up to 9999", b.days(300), 0);
        Due.due("day 9999", b.count(2), 9999);
        Due.due("99 of them", b.told(0, 2), 99);
        Due.due("none left", b.days(1), 0);
        Due.due("99 still", b.told(0, 2), 99);
        TurtleBet ice = new TurtleBet();
        ice.turtle(4, 20);
        ice.rule(1, 60);
        ice.days(1);
        Due.due("ice", ice.told(0, 2), 0);
        Due.due("a draw on ice", ice.count(11), 1103527590);
        Due.due("older on ice", ice.told(0, 3), 1);
        ice.rule(1, 59);
        ice.days(1);
        Due.isTrue("no ice at 59", ice.told(0, 2) >= 20);
        ice.set(0, 3, 9999);
        ice.days(1);
        Due.due("age is 1 more, above 9999 too", ice.told(0, 3), 10000);
        Due.due("dead then", ice.told(0, 5), 1);
        ice.set(0, 5, 0);
        ice.set(0, 3, 4998);
        ice.days(1);
        Due.due("4999 is not 5000", ice.told(0, 5), 0);
        ice.days(1);
        Due.due("5000 is", ice.told(0, 5), 1);
    }

    private static void leads() {
        TurtleBet b = new TurtleBet();
        b.turtle(0, 0);
        b.turtle(0, 0);
        b.turtle(0, 0);
        Due.due("the least of several", b.leads(), 0);
        b.set(0, 2, -2);
        b.set(1, 2, -1);
        b.set(2, 2, -1);
        Due.due("below 0", b.leads(), 1);
        b.set(2, 2, 0);
        b.set(2, 5, 1);
        Due.due("a dead one", b.leads(), 2);
    }
}
