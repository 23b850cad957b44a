import java.util.function.Consumer;

/**
 * Every number by which a call is told one of several things (a turtle, a kind, a wager, what of it
 * ..): the first and the last one are taken, those right beyond and far beyond are BAD and change
 * nothing.
 */
public final class EdgesOfNumbersTest {
    private static final Consumer<TurtleBet> EMPTY = Edge::empty, SOME = Edge::some, FULL = Edge::full;

    public static void main(String[] args) {
        turtles();
        noTurtles();
        kinds();
        whats();
        wagersAndOwners();
        sheets();
        slots();
        texts();
        Due.end();
    }

    /** "TURTLES, 8 at most, numbered from 0". */
    private static void turtles() {
        Object[][] calls = {
            {"told", (Edge.Call) (b, v) -> b.told(v, 0)},
            {"step", (Edge.Call) (b, v) -> b.step(v, 0)},
            {"as", (Edge.Call) (b, v) -> b.as(v, 0)},
            {"turns", (Edge.Call) (b, v) -> b.turns(v, 0)},
            {"set", (Edge.Call) (b, v) -> b.set(v, 1, 0)},
            {"push", (Edge.Call) (b, v) -> b.push(v, 0)},
            {"egg", (Edge.Call) (b, v) -> b.egg(v, 0)},
            {"pays", (Edge.Call) (b, v) -> b.pays(0, v)},
            {"behind", (Edge.Call) (b, v) -> b.behind(v, 0, 0)},
            {"behind: who leads", (Edge.Call) (b, v) -> b.behind(v, 0, 2)},
            {"behind: paid", (Edge.Call) (b, v) -> b.behind(v, 0, 3)},
            {"meet: one", (Edge.Call) (b, v) -> b.meet(v, 0)},
            {"meet: other", (Edge.Call) (b, v) -> b.meet(0, v)},
            {"colder", (Edge.Call) (b, v) -> b.colder(v, 1)},
            {"stick", (Edge.Call) (b, v) -> b.stick(v, 0)},
            {"paced", (Edge.Call) (b, v) -> b.paced(0, v, 0)},
            {"fine", (Edge.Call) (b, v) -> b.fine(v)},
            {"lay", (Edge.Call) (b, v) -> b.lay(0, 1, v)},
        };
        for (Object[] one : calls) {
            Edge.bounds(one[0] + " of three turtles", 0, 2, SOME, (Edge.Call) one[1]);
            Edge.bounds(one[0] + " of eight turtles", 0, 7, FULL, (Edge.Call) one[1]);
        }
        Edge.bounds("wager of three turtles", 0, 2, SOME, (b, v) -> b.wager(0, v, 0));
    }

    /** "A new object: no TURTLES": none has the number 0. */
    private static void noTurtles() {
        Due.due("told", new TurtleBet().told(0, 0), TurtleBet.BAD);
        Due.due("step", new TurtleBet().step(0, 0), TurtleBet.BAD);
        Due.due("as", new TurtleBet().as(0, 0), TurtleBet.BAD);
        Due.due("turns", new TurtleBet().turns(0, 0), TurtleBet.BAD);
        Due.due("set", new TurtleBet().set(0, 1, 0), TurtleBet.BAD);
        Due.due("push", new TurtleBet().push(0, 0), TurtleBet.BAD);
        Due.due("egg", new TurtleBet().egg(0, 0), TurtleBet.BAD);
        Due.due("wager", new TurtleBet().wager(0, 0, 0), TurtleBet.BAD);
        Due.due("behind", new TurtleBet().behind(0, 0, 2), TurtleBet.BAD);
        Due.due("meet", new TurtleBet().meet(0, 0), TurtleBet.BAD);
        Due.due("colder", new TurtleBet().colder(0, 1), TurtleBet.BAD);
        Due.due("stick", new TurtleBet().stick(0, 0), TurtleBet.BAD);
        Due.due("fine", new TurtleBet().fine(0), TurtleBet.BAD);
        Due.due("lay", new TurtleBet().lay(0, 1, 0), TurtleBet.BAD);
        Edge.answers("paced", b -> b.sheet(0, 0, 1), b -> b.paced(0, 0, 0), TurtleBet.BAD);
        Edge.answers("paced, missing", EMPTY, b -> b.paced(0, 0, 0), TurtleBet.BAD);
    }

    /** "of KINDS: 0 .. 5". */
    private static void kinds() {
        Edge.bounds("turtle: kind", 0, 5, SOME, (b, v) -> b.turtle(v, 0), v -> 3);
        Edge.bounds("as: kind", 0, 5, SOME, (b, v) -> b.as(0, v));
        Edge.bounds("turns: kind", 0, 5, SOME, (b, v) -> b.turns(0, v), v -> 4);
        Edge.bounds("egg: kind", 0, 5, SOME, (b, v) -> b.egg(1, v));
        Edge.bounds("ask: kind", 0, 5, SOME, (b, v) -> b.ask(1, v));
    }

    private static void whats() {
        Edge.bounds("told: what", 0, 8, SOME, (b, v) -> b.told(0, v));
        Edge.bounds("set: what", 1, 5, SOME, (b, v) -> b.set(0, v, 0));
        Edge.bounds("set: what, with 1", 1, 5, SOME, (b, v) -> b.set(0, v, 1));
        Edge.bounds("rule: what", 0, 2, SOME, (b, v) -> b.rule(v, 50));
        Edge.bounds("wagerTold: what", 0, 2, SOME, (b, v) -> b.wagerTold(0, v));
        Edge.bounds("behind: what", 0, 10, SOME, (b, v) -> b.behind(0, 5, v));
        Edge.bounds("paced: what", 0, 1, SOME, (b, v) -> b.paced(0, 0, v));
        Edge.bounds("textTold: what", 0, 1, SOME, (b, v) -> b.textTold(0, v));
        Edge.bounds("why: key", 0, 2, SOME, (b, v) -> b.why(v), v -> new int[] {1, 2, 0}[v]);
        Edge.bounds("count: what", 0, 11, SOME, (b, v) -> b.count(v));
        Edge.bounds("lay: thing", 0, 3, SOME, (b, v) -> b.lay(1, v, 0), v -> 1);
        Edge.bounds("sheet: sort", -1, 1, SOME, (b, v) -> b.sheet(0, v, 7), v -> v < 0 ? 0 : 7);
    }

    /** "WAGERS, 12 at most, numbered from 0: an OWNER 0 .. 7". */
    private static void wagersAndOwners() {
        Edge.bounds("wagerTold of four", 0, 3, SOME, (b, v) -> b.wagerTold(v, 0));
        Edge.bounds("inherit of four", 0, 3, SOME, (b, v) -> b.inherit(v, 2), v -> 5);
        Edge.bounds("pays of four", 0, 3, SOME, (b, v) -> b.pays(v, 0));
        Edge.bounds("wagerTold of twelve", 0, 11, FULL, (b, v) -> b.wagerTold(v, 0), v -> v % 8);
        Edge.bounds("inherit of twelve", 0, 11, FULL, (b, v) -> b.inherit(v, 1), v -> 12);
        Edge.bounds("pays of twelve", 0, 11, FULL, (b, v) -> b.pays(v, 0));
        Edge.bounds("wager: owner", 0, 7, SOME, (b, v) -> b.wager(v, 0, 1), v -> 4);
        Due.due("wagerTold of none", new TurtleBet().wagerTold(0, 0), TurtleBet.BAD);
        Due.due("inherit of none", new TurtleBet().inherit(0, 1), TurtleBet.BAD);
        Edge.answers("pays of none", b -> b.turtle(0, 0), b -> b.pays(0, 0), TurtleBet.BAD);
    }

    /** "SHEETS 0 .. 3". */
    private static void sheets() {
        Edge.bounds("sheet", 0, 3, SOME, (b, v) -> b.sheet(v, 0, 1), v -> 1);
        Edge.bounds("sheet missing", 0, 3, SOME, (b, v) -> b.sheet(v, -1, 1), v -> 0);
        Edge.bounds("mark", 0, 3, SOME, (b, v) -> b.mark(v, 0, 1));
        Edge.bounds("pour", 0, 3, SOME, (b, v) -> b.pour(v));
        Edge.bounds("reads", 0, 3, SOME, (b, v) -> b.reads(v));
        Edge.bounds("paced", 0, 3, SOME, (b, v) -> b.paced(v, 0, 0));
        Edge.bounds("copy from", 0, 3, SOME, (b, v) -> b.copy(v, 0, 0, 0, 0));
        Edge.bounds("copy to", 0, 3, SOME, (b, v) -> b.copy(0, 0, v, 0, 0));
        Edge.bounds("lay", 0, 3, SOME, (b, v) -> b.lay(0, 2, v));
    }

    /** "SLOTS 0 .. 4". */
    private static void slots() {
        Edge.bounds("lay", 0, 4, SOME, (b, v) -> b.lay(v, 3, 1), v -> new int[] {0, 1, 2, 3, 2}[v]);
        Edge.bounds("lay nothing", 0, 4, SOME, (b, v) -> b.lay(v, 0, 1));
        Edge.bounds("ask", 0, 4, SOME, (b, v) -> b.ask(v, 0));
        Edge.bounds("item", 0, 4, SOME, (b, v) -> b.item(v, 0));
        Edge.bounds("rest", 0, 4, SOME, (b, v) -> b.rest(v, 2));
    }

    /** "TEXTS, 14 at most, numbered from 0". */
    private static void texts() {
        Edge.bounds("textTold of three", 0, 2, SOME, (b, v) -> b.textTold(v, 0), v -> new int[] {2, 0, 1}[v]);
        Edge.bounds("textTold of fourteen", 0, 13, FULL, (b, v) -> b.textTold(v, 1), v -> 2);
        Due.due("textTold of none", new TurtleBet().textTold(0, 0), TurtleBet.BAD);
    }
}
