import java.util.ArrayList;
import java.util.List;
import java.util.function.Consumer;
import java.util.function.IntUnaryOperator;
import java.util.function.ToIntFunction;

/**
 * Looks at calls on objects that are made anew each time: at a bound, right beyond it and far
 * beyond it, and whether a call that must change nothing leaves all as it was.
 */
final class Edge {
    interface Call {
        int with(TurtleBet b, int v);
    }

    /** Few, so that an object is not used for more than 512 calls. */
    private static final int[] PLACES = {0, 1, 2, 23};

    private Edge() {}

    static TurtleBet made(Consumer<TurtleBet> making) {
        TurtleBet b = new TurtleBet();
        making.accept(b);
        return b;
    }

    static void empty(TurtleBet b) {}

    /**
     * Something of everything: three turtles (1 is DEAD, 2 is TURNED), four wagers, three texts, an
     * image that is another state, six numbers that wait (three DAYS TOLD by the image), seven bytes
     * on the tape; sheet 0 of three shorts, 1 of four floats (place 1 NO NUMBER), 2 MISSING, 3
     * without places; slot 0 holds nothing, 1 a turtle, 2 sheet 1, 3 the number -17, 4 sheet 0.
     */
    static void some(TurtleBet b) {
        b.seed(77);
        b.turtle(4, 3);
        b.turtle(3, 20);
        b.turtle(2, 9);
        b.set(0, 2, -250);
        b.set(1, 3, 2500);
        b.set(2, 4, 1);
        b.wager(6, 0, 103);
        b.wager(0, 1, 7);
        b.wager(7, 0, 50);
        Due.text(b, "fine l+9*p");
        Due.text(b, "pace p+x+c/9");
        b.keep();
        for (int day = 1; day <= 3; day++) {
            b.tell(b.behind(0, day, 2));
            b.tell(b.behind(0, day, 0) + b.behind(1, day, 0) + b.behind(2, day, 0));
        }
        b.days(2);
        b.set(1, 5, 1);
        b.rule(0, 150);
        b.rule(1, 15);
        b.rule(2, 4000);
        b.wager(3, 2, 20);
        Due.text(b, "pay s+t-w/5");
        b.sheet(0, 0, 3);
        b.sheet(1, 1, 4);
        b.sheet(3, 0, 0);
        for (int i = 0; i < 3; i++) {
            b.mark(0, i, 5 * i - 4);
            b.mark(1, i + 1, i == 0 ? TurtleBet.NONE : 7 * i);
        }
        b.lay(1, 1, 0);
        b.lay(2, 2, 1);
        b.lay(3, 3, -17);
        b.lay(4, 2, 0);
        Due.onTape(b, "fine 12");
    }

    /** As much of everything as there may be, on ICE: the DAYS TOLD are alike, 60 of them wait. */
    static void full(TurtleBet b) {
        b.seed(5);
        b.deal(8);
        b.set(6, 2, 40);
        b.rule(1, 60);
        for (int i = 0; i < 12; i++) {
            b.wager(i % 8, i % 3, 10 + i);
        }
        for (int i = 0; i < 14; i++) {
            b.feed(0x66696e65, 0x20702b38, 0x20202020);
            b.text();
        }
        b.keep();
        for (int i = 0; i < 30; i++) {
            b.tell(6);
            b.tell(40);
        }
        for (int i = 0; i < 8; i++) {
            b.feed(0x66696e65, 0x20312b32, 0x20202020);
        }
        for (int i = 0; i < 4; i++) {
            b.sheet(i, i % 2, 24);
            b.mark(i, 23, 7);
        }
        for (int i = 0; i < 5; i++) {
            b.lay(i, 2, i % 4);
        }
    }

    /** It answers what is due. */
    static void answers(String what, Consumer<TurtleBet> making, ToIntFunction<TurtleBet> call, int want) {
        Due.due(what, call.applyAsInt(made(making)), want);
    }

    /** It answers what is due, and all is as if it had not been called. */
    static void keepsAll(String what, Consumer<TurtleBet> making, ToIntFunction<TurtleBet> call, int want) {
        TurtleBet called = made(making);
        Due.due(what, call.applyAsInt(called), want);
        alike(what, seen(called), seen(made(making)));
    }

    /** Two ways to make an object end alike. */
    static void same(String what, Consumer<TurtleBet> one, Consumer<TurtleBet> other) {
        alike(what, seen(made(one)), seen(made(other)));
    }

    private static void alike(String what, List<String> got, List<String> want) {
        String differs = "";
        for (int i = 0; i < want.size() && differs.isEmpty(); i++) {
            differs = got.get(i).equals(want.get(i)) ? "" : got.get(i) + ", not " + want.get(i);
        }
        Due.isTrue(what + " leaves other things: " + differs, differs.isEmpty());
    }

    /** least .. most are taken, with the answers that are due; what is beyond is BAD and changes nothing. */
    static void bounds(String what, int least, int most, Consumer<TurtleBet> making, Call call, IntUnaryOperator due) {
        for (int v : new int[] {least, Math.min(least + 1, most), Math.max(most - 1, least), most}) {
            Due.due(what + ": " + v, call.with(made(making), v), due.applyAsInt(v));
        }
        beyond(what, least, most, making, call);
    }

    /** least and most are not BAD; what is beyond is, and changes nothing. */
    static void bounds(String what, int least, int most, Consumer<TurtleBet> making, Call call) {
        for (int v : new int[] {least, most}) {
            int got = call.with(made(making), v);
            Due.isTrue(what + ": " + v + " answered BAD", got != TurtleBet.BAD);
        }
        beyond(what, least, most, making, call);
    }

    private static void beyond(String what, int least, int most, Consumer<TurtleBet> making, Call call) {
        for (int v : new int[] {least - 1, most + 1, Integer.MIN_VALUE, Integer.MAX_VALUE}) {
            keepsAll(what + ": " + v, making, b -> call.with(b, v), TurtleBet.BAD);
        }
    }

    /** All that can be asked of an object: what stands, what it keeps, and what comes back with its image. */
    static List<String> seen(TurtleBet b) {
        List<String> all = new ArrayList<>();
        moat(all, "now", b);
        for (int slot = 0; slot < 5; slot++) {
            all.add("ask " + slot + " is " + b.ask(slot, 0));
            all.add("rest " + slot + " is " + b.rest(slot, Integer.MAX_VALUE));
            for (int place : PLACES) {
                all.add("item " + slot + " " + place + " is " + b.item(slot, place));
            }
        }
        for (int sheet = 0; sheet < 4; sheet++) {
            b.lay(0, 0, 0);
            all.add("lay of sheet " + sheet + " is " + b.lay(0, 2, sheet));
            for (int place : PLACES) {
                all.add("sheet " + sheet + " place " + place + " is " + b.item(0, place));
            }
            all.add("sort of sheet " + sheet + " is " + b.mark(sheet, 0, TurtleBet.NONE));
        }
        all.add("check is " + b.check(b.count(9) / 2));
        all.add("text is " + b.text());
        all.add("fine is " + b.fine(0));
        all.add("back is " + b.back());
        moat(all, "image", b);
        return all;
    }

    private static void moat(List<String> all, String where, TurtleBet b) {
        for (int what = 0; what < 12; what++) {
            all.add(where + ": count " + what + " is " + b.count(what));
        }
        for (int i = 0; i < 8; i++) {
            for (int what = 0; what < 6; what++) {
                all.add(where + ": told " + i + " " + what + " is " + b.told(i, what));
            }
            all.add(where + ": step " + i + " is " + b.step(i, 3));
            all.add(where + ": fine " + i + " is " + b.fine(i));
        }
        for (int i = 0; i < 12; i++) {
            for (int what = 0; what < 3; what++) {
                all.add(where + ": wager " + i + " " + what + " is " + b.wagerTold(i, what));
            }
            all.add(where + ": pays " + i + " is " + b.pays(i, i % 3));
        }
        for (int i = 0; i < 14; i++) {
            all.add(where + ": text " + i + " is " + b.textTold(i, 0) + ", " + b.textTold(i, 1));
        }
        for (int key = 0; key < 3; key++) {
            all.add(where + ": why " + key + " is " + b.why(key));
        }
    }
}
