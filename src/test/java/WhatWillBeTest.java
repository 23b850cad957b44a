/** Promises 20 to 26: what is only thought, and fines. */
public final class WhatWillBeTest {
    private static final int BAD = TurtleBet.BAD, NONE = TurtleBet.NONE;

    public static void main(String[] args) {
        behind();
        behindPaid();
        behindLastDay();
        toLaps();
        meet();
        colder();
        stick();
        paced();
        pacedWild();
        fine();
        Due.end();
    }

    private static void behind() {
        TurtleBet b = new TurtleBet();
        b.turtle(0, 5);
        b.turtle(0, 6);
        b.set(0, 2, 10);
        Due.due("behind 0", b.behind(0, 0, 0), 10);
        Due.due("behind 300", b.behind(0, 300, 0), 1510);
        Due.due("laps", b.behind(1, 300, 1), 18);
        Due.due("leads behind 10: of several the least", b.behind(1, 10, 2), 0);
        Due.due("leads behind 11", b.behind(1, 11, 2), 1);
        Due.due("nothing changes: path", b.told(0, 2), 10);
        Due.due("nothing changes: z", b.count(11), 1);
        Due.due("nothing changes: day", b.count(2), 0);
        Due.due("nothing changes: age", b.told(0, 3), 0);
        Due.due("n -1", b.behind(0, -1, 0), BAD);
        Due.due("n 301", b.behind(0, 301, 0), BAD);
        Due.due("what -1", b.behind(0, 0, -1), BAD);
        Due.due("what 11", b.behind(0, 0, 11), BAD);
        Due.due("turtle 2", b.behind(2, 0, 0), BAD);
        Due.due("turtle -1", b.behind(-1, 0, 0), BAD);
        b.rule(2, 4);
        Due.due("dies on the way", b.behind(0, 100, 0), 30);
        Due.due("nobody dead now", b.count(1), 0);
        b.set(1, 4, 1);
        Due.due("turned", b.behind(1, 100, 0), -24);
        Due.due("laps below 0", b.behind(1, 100, 1), -1);
    }

    private static void behindPaid() {
        TurtleBet b = new TurtleBet();
        b.turtle(0, 5);
        b.turtle(0, 6);
        b.set(0, 2, 10);
        b.wager(0, 0, 30);
        b.wager(7, 1, 10);
        b.wager(7, 1, 20);
        b.wager(0, 1, 10);
        Due.due("owner 0 on 0", b.behind(0, 0, 3), 70);
        Due.due("owner 7 on 0", b.behind(0, 0, 10), 0);
        Due.due("owner 7 on 1: 17 and 35", b.behind(0, 11, 10), 52);
        Due.due("owner 0 on 1", b.behind(0, 11, 3), 17);
        Due.due("owner 1", b.behind(0, 11, 4), 0);
    }

    private static void behindLastDay() {
        TurtleBet b = new TurtleBet();
        for (int i = 0; i < 34; i++) {
            b.days(300);
        }
        Due.due("day 9999", b.count(2), 9999);
        b.turtle(0, 2);
        Due.due("without the bound of the day", b.behind(0, 300, 0), 600);
        Due.due("laps without the bound", b.toLaps(6), 0);
    }

    private static void toLaps() {
        TurtleBet b = new TurtleBet();
        Due.due("no turtles", b.toLaps(0), NONE);
        b.turtle(0, 10);
        b.turtle(0, 20);
        b.turtle(0, 20);
        b.set(0, 2, -5);
        b.set(1, 2, -40);
        b.set(2, 2, -40);
        Due.due("0 laps: 0 is there behind 1 day", b.toLaps(0), 0);
        b.set(0, 2, -15);
        Due.due("0 laps: all behind 2 days, 0 is the farthest", b.toLaps(0), 0);
        b.set(0, 2, -20);
        Due.due("0 laps: all behind 2 days at 0", b.toLaps(0), 0);
        b.set(0, 2, -21);
        Due.due("0 laps: the least of two", b.toLaps(0), 1);
        Due.due("1 lap", b.toLaps(1), 1);
        Due.due("59 laps behind 300 days", b.toLaps(59), 1);
        Due.due("60 laps: not by then", b.toLaps(60), NONE);
        b.set(2, 2, 0);
        Due.due("60 laps right behind 300 days", b.toLaps(60), 2);
        b.set(2, 2, -1);
        Due.due("60 laps a day later", b.toLaps(60), NONE);
        Due.due("n -1", b.toLaps(-1), BAD);
        Due.due("n 100", b.toLaps(100), BAD);
        b.set(1, 2, 9999);
        Due.due("99 laps now", b.toLaps(99), 1);
        Due.due("nothing changes", b.count(11), 1);
    }

    private static void meet() {
        TurtleBet b = new TurtleBet();
        b.turtle(0, 5);
        b.turtle(0, 6);
        b.turtle(0, 5);
        b.set(2, 2, 1);
        Due.due("with itself", b.meet(0, 0), 0);
        Due.due("alike now", b.meet(0, 1), 0);
        b.set(1, 2, -10);
        Due.due("behind 10 days", b.meet(0, 1), 10);
        b.set(1, 2, 1);
        Due.due("round: behind 99 days", b.meet(1, 0), 99);
        Due.due("never", b.meet(0, 2), NONE);
        b.rule(0, 301);
        Due.due("right behind 300 days", b.meet(0, 1), 300);
        b.rule(0, 302);
        Due.due("a day later", b.meet(0, 1), NONE);
        Due.due("turtle 3", b.meet(0, 3), BAD);
        Due.due("turtle -1", b.meet(-1, 0), BAD);
        Due.due("nothing changes", b.told(1, 2), 1);
    }

    private static void colder() {
        TurtleBet b = new TurtleBet();
        b.turtle(0, 10);
        b.turtle(2, 8);
        b.turtle(5, 0);
        Due.due("quick leads at 0", b.colder(1, 10), 0);
        Due.due("behind 1 day", b.colder(0, 1), 20);
        Due.due("another one from 20 on", b.colder(0, 10), 20);
        Due.due("never", b.colder(2, 10), NONE);
        b.set(2, 2, 1);
        Due.due("on ice", b.colder(2, 10), 60);
        Due.due("on ice, 60 days", b.colder(2, 60), 60);
        Due.due("the cold stays", b.count(4), 10);
        Due.due("nothing drawn", b.count(11), 1);
        Due.due("n 0", b.colder(0, 0), BAD);
        Due.due("n 61", b.colder(0, 61), BAD);
        Due.due("turtle 3", b.colder(3, 1), BAD);
        Due.due("turtle -1", b.colder(-1, 1), BAD);
        Due.due("text", Due.text(b, "pace p * (c > 37) + (c < 45) * (p = 8)"), 0);
        Due.due("by a text", b.colder(0, 2), 38);
    }

    private static void stick() {
        TurtleBet b = new TurtleBet();
        b.turtle(0, 10);
        b.turtle(0, 8);
        b.turtle(5, 0);
        Due.due("leads now, the least", b.stick(0, 0), 0);
        Due.due("1 must be ahead of 0", b.stick(1, 0), 1);
        Due.due("20 yards", b.stick(1, 10), 21);
        Due.due("stone behind 9 days", b.stick(2, 9), 91);
        Due.due("stone behind 10 days", b.stick(2, 10), NONE);
        b.set(2, 2, 1);
        Due.due("99", b.stick(2, 10), NONE);
        b.set(2, 2, 2);
        Due.due("99 is enough", b.stick(2, 10), 99);
        Due.due("the one ahead needs none", b.stick(0, 60), 0);
        b.set(1, 2, 25);
        Due.due("0 is the least of several", b.stick(0, 10), 5);
        Due.due("n -1", b.stick(0, -1), BAD);
        Due.due("n 61", b.stick(0, 61), BAD);
        Due.due("turtle 3", b.stick(3, 1), BAD);
        Due.due("nothing changes", b.told(1, 2), 25);
    }

    private static void paced() {
        TurtleBet b = new TurtleBet();
        b.turtle(0, 7);
        Due.due("missing", b.paced(0, 0, 0), TurtleBet.NOTHING);
        Due.due("missing, bad what", b.paced(0, 0, 2), BAD);
        b.sheet(0, 1, 24);
        for (int k = 0; k < 24; k++) {
            b.mark(0, k, TurtleBet.NONE);
        }
        Due.due("no numbers: the least", b.paced(0, 0, 0), 0);
        Due.due("no numbers: no differences", b.paced(0, 0, 1), 0);
        b.mark(0, 23, 68);
        Due.due("23 days, round", b.paced(0, 0, 0), 16);
        Due.due("16 * 23 = 368", b.paced(0, 0, 1), 0);
        b.mark(0, 23, -99999);
        Due.due("far below 0", b.paced(0, 0, 0), 0);
        Due.due("far below 0, differences", b.paced(0, 0, 1), 99999);
        b.sheet(1, 0, 3);
        b.mark(1, 0, 0);
        b.mark(1, 1, 3);
        b.mark(1, 2, 8);
        Due.due("3: 0, 2; 4: 1, 0", b.paced(1, 0, 0), 4);
        Due.due("1 from 4", b.paced(1, 0, 1), 1);
        b.mark(1, 2, 7);
        Due.due("3: 0 and 1", b.paced(1, 0, 0), 3);
        b.mark(1, 1, 1);
        b.mark(1, 2, 2);
        Due.due("pace 1", b.paced(1, 0, 0), 1);
        b.mark(1, 1, 20);
        b.mark(1, 2, 40);
        Due.due("pace 20", b.paced(1, 0, 0), 20);
        b.mark(1, 1, 4);
        b.mark(1, 2, 6);
        Due.due("3: 1, 0; 4: 0, 2", b.paced(1, 0, 0), 3);
        b.sheet(2, 0, 0);
        Due.due("no places", b.paced(2, 0, 0), 0);
        Due.due("sheet 4", b.paced(4, 0, 0), BAD);
        Due.due("sheet -1", b.paced(-1, 0, 0), BAD);
        Due.due("turtle 1", b.paced(0, 1, 0), BAD);
        Due.due("what -1", b.paced(0, 0, -1), BAD);
        Due.due("the pace stays", b.told(0, 1), 7);
        b.set(0, 5, 1);
        Due.due("a dead one: the least", b.paced(1, 0, 0), 0);
        Due.due("a dead one: differences", b.paced(1, 0, 1), 10);
    }

    /** Another one's draws count, too: the sheet is what will be, so the pace is found again. */
    private static void pacedWild() {
        TurtleBet b = new TurtleBet();
        b.seed(99);
        b.turtle(4, 3);
        b.turtle(4, 11);
        b.set(0, 3, 4996);
        b.sheet(0, 0, 10);
        for (int k = 0; k < 10; k++) {
            b.mark(0, k, b.behind(1, k, 0) % 100);
        }
        Due.due("found again", b.paced(0, 1, 0), 11);
        Due.due("without differences", b.paced(0, 1, 1), 0);
    }

    private static void fine() {
        TurtleBet b = new TurtleBet();
        b.turtle(0, 9);
        b.set(0, 2, -101);
        Due.due("laps", b.fine(0), -2);
        Due.due("turtle 1", b.fine(1), BAD);
        Due.due("turtle -1", b.fine(-1), BAD);
        Due.due("text", Due.text(b, "fine l * p - 1"), 0);
        Due.due("by a text, not held", b.fine(0), -19);
    }
}
