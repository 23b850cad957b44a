import java.util.function.Consumer;
import java.util.function.ToIntFunction;

/**
 * "A call that is refused answers one of BAD, NO, FULL, or a FINDING, of several the one that stands
 * first with it, and changes nothing (but the tape and the numbers that wait, where told)."
 */
public final class RefusedTest {
    private static final int BAD = TurtleBet.BAD, NO = TurtleBet.NO, FULL = TurtleBet.FULL, NONE = TurtleBet.NONE,
            NOTHING = TurtleBet.NOTHING, KIND = TurtleBet.KIND, INDEX = TurtleBet.INDEX, SIZE = TurtleBet.SIZE;

    public static void main(String[] args) {
        asMade();
        refused();
        full();
        sheets();
        slots();
        firstOfSeveral();
        firstOfSeveralSheets();
        firstOfSeveralSlots();
        tapeUsedUp();
        waitingGone();
        onlyThought();
        onlyAsked();
        Due.end();
    }

    /** What these tests rest upon. */
    private static void asMade() {
        int[] some = {3, 1, 2, 150, 15, 4000, 4, 0, 3, 6, 7, 0};
        int[] full = {8, 0, 0, 100, 60, 5000, 12, 40, 14, 60, 96, 0};
        for (int what = 0; what < 11; what++) {
            if (what != 7) {
                Due.due("some: count " + what, Edge.made(Edge::some).count(what), some[what]);
            }
            Due.due("full: count " + what, Edge.made(Edge::full).count(what), full[what]);
        }
        Due.due("some: the days told wait", Edge.made(Edge::some).check(3), 0);
        Due.due("full: the days told wait", Edge.made(Edge::full).check(30), 0);
    }

    private static void some(String what, int want, ToIntFunction<TurtleBet> call) {
        Edge.keepsAll(what, Edge::some, call, want);
    }

    private static void fully(String what, int want, ToIntFunction<TurtleBet> call) {
        Edge.keepsAll(what, Edge::full, call, want);
    }

    private static void refused() {
        some("as: another kind", KIND, b -> b.as(0, 1));
        some("as: a kind under it", KIND, b -> b.as(2, 4));
        some("egg: not dead", NO, b -> b.egg(0, 2));
        some("set: pace 21", BAD, b -> b.set(0, 1, 21));
        some("set: pace -1", BAD, b -> b.set(0, 1, -1));
        some("push: 100", BAD, b -> b.push(0, 100));
        some("days: 0", BAD, b -> b.days(0));
        some("days: 301", BAD, b -> b.days(301));
        some("deal: 0", BAD, b -> b.deal(0));
        some("deal: 9", BAD, b -> b.deal(9));
        some("inherit: 10 more", BAD, b -> b.inherit(0, 11));
        some("trim: more than there are", BAD, b -> b.trim(8));
        some("trim: below 0", BAD, b -> b.trim(-1));
    }

    private static void full() {
        fully("turtle: the ninth", FULL, b -> b.turtle(0, 1));
        fully("wager: the thirteenth", FULL, b -> b.wager(0, 0, 1));
        fully("inherit: the thirteenth", FULL, b -> b.inherit(0, 2));
        fully("inherit: the nineteenth", FULL, b -> b.inherit(0, 8));
        fully("feed: above 96", FULL, b -> b.feed(0x39393939, 0x39393939, 0x39393939));
        fully("tell: the sixty-first", FULL, b -> b.tell(7));
        fully("deal: no room", 0, b -> b.deal(8));
        some("inherit: 4 and 9 are 13", BAD, b -> b.inherit(0, 10));
        Edge.keepsAll("inherit: 6 and 7 are 13", b -> {
            Edge.some(b);
            b.inherit(0, 3);
        }, b -> b.inherit(1, 8), FULL);
        Edge.keepsAll("back: no image", b -> b.turtle(0, 3), b -> b.back(), NO);
    }

    private static void sheets() {
        some("sheet: n 25", BAD, b -> b.sheet(0, 0, 25));
        some("sheet: n -1", SIZE, b -> b.sheet(0, 0, -1));
        some("sheet: n the least int", SIZE, b -> b.sheet(1, 1, Integer.MIN_VALUE));
        some("sheet: n the greatest int", BAD, b -> b.sheet(1, 1, Integer.MAX_VALUE));
        some("mark: missing", NOTHING, b -> b.mark(2, 0, 1));
        some("mark: place 3 of 3", INDEX, b -> b.mark(0, 3, 1));
        some("mark: place -1", INDEX, b -> b.mark(0, -1, 1));
        some("mark: place 0 of 0", INDEX, b -> b.mark(3, 0, 1));
        some("mark: NONE of shorts", KIND, b -> b.mark(0, 0, NONE));
        some("mark: 100000 of floats", BAD, b -> b.mark(1, 0, 100000));
        some("mark: -100000 of floats", BAD, b -> b.mark(1, 0, -100000));
        some("pour: missing", NOTHING, b -> b.pour(2));
        some("reads: missing", NOTHING, b -> b.reads(2));
        some("paced: missing", NOTHING, b -> b.paced(2, 0, 0));
        some("copy: from a missing one", NOTHING, b -> b.copy(2, 0, 0, 0, 1));
        some("copy: to a missing one", NOTHING, b -> b.copy(0, 0, 2, 0, 1));
        some("copy: shorts to floats", KIND, b -> b.copy(0, 0, 1, 0, 1));
        some("copy: floats to shorts", KIND, b -> b.copy(1, 0, 0, 0, 1));
        some("copy: beyond the end", INDEX, b -> b.copy(0, 1, 0, 0, 3));
        some("copy: to beyond the end", INDEX, b -> b.copy(0, 0, 0, 1, 3));
        some("copy: to a row of none", INDEX, b -> b.copy(0, 0, 3, 0, 1));
    }

    private static void slots() {
        some("lay: missing", NOTHING, b -> b.lay(1, 2, 2));
        some("ask: nothing", NOTHING, b -> b.ask(0, 0));
        some("ask: a sheet", KIND, b -> b.ask(2, 0));
        some("ask: a number", KIND, b -> b.ask(3, 0));
        some("ask: another kind", KIND, b -> b.ask(1, 5));
        some("item: nothing", NOTHING, b -> b.item(0, 0));
        some("item: a turtle", KIND, b -> b.item(1, 0));
        some("item: a number", KIND, b -> b.item(3, 0));
        some("item: place 4 of 4", INDEX, b -> b.item(2, 4));
        some("item: place -1", INDEX, b -> b.item(2, -1));
        some("item: no number", KIND, b -> b.item(2, 1));
        some("rest: nothing", NOTHING, b -> b.rest(0, 2));
        some("rest: a turtle", KIND, b -> b.rest(1, 2));
        some("rest: a sheet", KIND, b -> b.rest(2, 2));
        some("rest: by 0", NO, b -> b.rest(3, 0));
    }

    /** "of several the one that stands first with it". */
    private static void firstOfSeveral() {
        fully("turtle: BAD; FULL", BAD, b -> b.turtle(6, 0));
        fully("turtle: BAD; FULL, pace", BAD, b -> b.turtle(0, 21));
        fully("wager: BAD; FULL, owner", BAD, b -> b.wager(8, 0, 0));
        fully("wager: BAD; FULL, turtle", BAD, b -> b.wager(0, 8, 0));
        fully("wager: BAD; FULL, stake", BAD, b -> b.wager(0, 0, 10000));
        fully("inherit: BAD; FULL, wager", BAD, b -> b.inherit(12, 2));
        fully("inherit: BAD; FULL, n", BAD, b -> b.inherit(0, 9));
        some("egg: BAD; NO, kind", BAD, b -> b.egg(0, 6));
        some("as: BAD; KIND", BAD, b -> b.as(3, 1));
        some("paced: BAD; NOTHING, turtle", BAD, b -> b.paced(2, 3, 0));
        some("paced: BAD; NOTHING, what", BAD, b -> b.paced(2, 0, 2));
        Edge.keepsAll("days: BAD; NONE", Edge::empty, b -> b.days(0), BAD);
        Edge.keepsAll("days: BAD; NONE", Edge::empty, b -> b.days(301), BAD);
        Edge.keepsAll("toLaps: BAD; NONE", Edge::empty, b -> b.toLaps(100), BAD);
        Edge.keepsAll("toLaps: BAD; NONE", Edge::empty, b -> b.toLaps(-1), BAD);
        Edge.keepsAll("why: BAD; NONE", Edge::empty, b -> b.why(3), BAD);
        Edge.keepsAll("check: BAD; NO", Edge::empty, b -> b.check(0), BAD);
        Edge.keepsAll("check: BAD; NO", Edge::empty, b -> b.check(31), BAD);
    }

    private static void firstOfSeveralSheets() {
        some("sheet: BAD; SIZE, sheet", BAD, b -> b.sheet(4, 0, -1));
        some("sheet: BAD; SIZE, sort", BAD, b -> b.sheet(0, 2, -1));
        some("sheet: BAD, sheet of sort -1", BAD, b -> b.sheet(4, -1, 0));
        some("mark: BAD: sheet; NOTHING", BAD, b -> b.mark(4, -1, NONE));
        some("mark: NOTHING; INDEX; KIND", NOTHING, b -> b.mark(2, -1, NONE));
        some("mark: NOTHING; BAD: v", NOTHING, b -> b.mark(2, 0, 100000));
        some("mark: INDEX; KIND", INDEX, b -> b.mark(0, 3, NONE));
        some("mark: INDEX; BAD: v", INDEX, b -> b.mark(1, 4, 100000));
        some("copy: BAD; NOTHING", BAD, b -> b.copy(2, 0, 4, 0, 1));
        some("copy: BAD; NOTHING", BAD, b -> b.copy(-1, 0, 2, 0, 1));
        some("copy: NOTHING; INDEX", NOTHING, b -> b.copy(2, -1, 0, 0, 1));
        some("copy: NOTHING; INDEX", NOTHING, b -> b.copy(0, 9, 2, 0, 1));
        some("copy: both missing", NOTHING, b -> b.copy(2, 0, 2, 0, 0));
        some("copy: KIND; INDEX", KIND, b -> b.copy(0, -1, 1, 9, 30));
        some("copy: KIND, none of them", KIND, b -> b.copy(0, 0, 1, 0, 0));
    }

    private static void firstOfSeveralSlots() {
        some("lay: BAD; NOTHING, slot", BAD, b -> b.lay(5, 2, 2));
        some("ask: BAD; NOTHING", BAD, b -> b.ask(0, 6));
        some("ask: BAD; KIND", BAD, b -> b.ask(2, 6));
        some("item: BAD; INDEX", BAD, b -> b.item(5, -1));
        some("item: NOTHING; INDEX", NOTHING, b -> b.item(0, -1));
        some("item: KIND; INDEX", KIND, b -> b.item(1, -1));
        some("item: KIND of a number; INDEX", KIND, b -> b.item(3, 99));
        some("rest: BAD; NO", BAD, b -> b.rest(5, 0));
        some("rest: NOTHING; NO", NOTHING, b -> b.rest(0, 0));
        some("rest: KIND; NO", KIND, b -> b.rest(1, 0));
        some("rest: KIND of a sheet; NO", KIND, b -> b.rest(2, 0));
    }

    /** "an act that reads it uses it up, whatever it answers": all else is as it was. */
    private static void tapeUsedUp() {
        Consumer<TurtleBet> faulty = b -> {
            Edge.some(b);
            b.feed(0x2b2b2b2b, 0, 0);
        };
        Edge.answers("text: a fault", faulty, b -> b.text(), -108);
        Edge.same("text: a fault", b -> {
            faulty.accept(b);
            b.text();
        }, b -> {
            Edge.some(b);
            b.trim(0);
        });
        Edge.answers("text: full", b -> {
            Edge.full(b);
            b.trim(12);
        }, b -> b.text(), FULL);
        Edge.same("text: full", b -> {
            Edge.full(b);
            b.trim(12);
            b.text();
        }, b -> {
            Edge.full(b);
            b.trim(0);
        });
        Edge.answers("text: a fault ahead of full", Edge::full, b -> b.text(), -112);
        Edge.answers("text: an empty tape ahead of full", b -> {
            Edge.full(b);
            b.trim(0);
        }, b -> b.text(), -100);
    }

    /** "The numbers that wait (none do then, whatever is answered)": all else is as it was. */
    private static void waitingGone() {
        Consumer<TurtleBet> none = b -> {
            Edge.some(b);
            b.check(3);
        };
        for (int n : new int[] {0, 31, -1, Integer.MIN_VALUE, Integer.MAX_VALUE}) {
            Edge.answers("check " + n, Edge::some, b -> b.check(n), BAD);
            Edge.same("check " + n, b -> {
                Edge.some(b);
                b.check(n);
            }, none);
        }
        Edge.answers("check: right ones", Edge::some, b -> b.check(3), 0);
        Edge.answers("none wait then", none, b -> b.count(9), 0);
        Edge.answers("check: wrong ones", Edge::some, b -> b.check(4), 7);
        Edge.same("check: wrong ones", b -> {
            Edge.some(b);
            b.check(4);
        }, none);
        Consumer<TurtleBet> waits = b -> {
            b.turtle(1, 8);
            b.tell(3);
        };
        Edge.answers("check: no image", waits, b -> b.check(1), NO);
        Edge.same("check: no image", b -> {
            waits.accept(b);
            b.check(1);
        }, b -> b.turtle(1, 8));
    }

    /** "(All this is only thought, from now on, z as it is ..: nothing changes.)" */
    private static void onlyThought() {
        some("behind: path", Edge.made(Edge::some).behind(0, 300, 0), b -> b.behind(0, 300, 0));
        some("behind: paid", Edge.made(Edge::some).behind(0, 300, 9), b -> b.behind(0, 300, 9));
        some("toLaps", Edge.made(Edge::some).toLaps(2), b -> b.toLaps(2));
        some("toLaps: nobody", NONE, b -> b.toLaps(99));
        some("meet", Edge.made(Edge::some).meet(0, 2), b -> b.meet(0, 2));
        some("colder", Edge.made(Edge::some).colder(1, 60), b -> b.colder(1, 60));
        some("colder: none", NONE, b -> b.colder(2, 60));
        some("stick", Edge.made(Edge::some).stick(1, 60), b -> b.stick(1, 60));
        some("stick: none", NONE, b -> b.stick(2, 60));
        some("paced", Edge.made(Edge::some).paced(0, 0, 0), b -> b.paced(0, 0, 0));
        some("paced: differences", Edge.made(Edge::some).paced(1, 2, 1), b -> b.paced(1, 2, 1));
    }

    /** Calls that only tell something change nothing. */
    private static void onlyAsked() {
        fully("told", 40, b -> b.told(6, 2));
        some("step", 25, b -> b.step(0, 9));
        some("as", 20, b -> b.as(1, 1));
        fully("leads", 6, b -> b.leads());
        some("wagerTold", 103, b -> b.wagerTold(0, 2));
        some("pool", 180, b -> b.pool());
        some("pays", 180, b -> b.pays(0, 0));
        fully("fine", Edge.made(Edge::full).told(0, 1) + 8, b -> b.fine(0));
        some("textTold", 3, b -> b.textTold(0, 1));
        some("why", 2, b -> b.why(1));
        some("reads", 0, b -> b.reads(0));
        some("ask", 39, b -> b.ask(1, 2));
        some("item", 14, b -> b.item(2, 3));
        some("rest", -1, b -> b.rest(3, 4));
        some("count", 7, b -> b.count(10));
    }
}
