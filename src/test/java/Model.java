import java.util.ArrayList;
import java.util.Arrays;
import java.util.List;
import java.util.function.ToIntFunction;

/**
 * The document once more, written as plainly and as unlike TurtleBet as can be, for runs by lot:
 * kinds are classes, findings are what the machine throws, texts are trees of functions, everything
 * that is thought is tried out on a copy.
 */
final class Model {
    static final int BAD = TurtleBet.BAD, NO = TurtleBet.NO, FULL = TurtleBet.FULL,
            NONE = TurtleBet.NONE, NOTHING = TurtleBet.NOTHING, KIND = TurtleBet.KIND,
            INDEX = TurtleBet.INDEX, SIZE = TurtleBet.SIZE;

    // ---- kinds

    static class Kind {
        int step(int given, World w, Animal a, int x) { return given; }
        int worth(Animal a) { return a.pace; }
    }

    static class Slow extends Kind {
        @Override int step(int given, World w, Animal a, int x) { return super.step(given, w, a, x) / 2; }
        @Override int worth(Animal a) { return super.worth(a) + 30; }
    }

    static class Old extends Slow {
        @Override int step(int given, World w, Animal a, int x) {
            int less = super.step(given, w, a, x) - a.age / 1000;
            return less < 0 ? 0 : less;
        }
        @Override int worth(Animal a) { return super.worth(a) * 2; }
    }

    static class Quick extends Kind {
        @Override int step(int given, World w, Animal a, int x) {
            return super.step(given, w, a, x) + (w.cold < 20 ? 3 : 0);
        }
        @Override int worth(Animal a) { return 50 - a.pace; }
    }

    static class Wild extends Quick {
        @Override int step(int given, World w, Animal a, int x) { return super.step(given, w, a, x) + x; }
        @Override int worth(Animal a) { return super.worth(a) - 8; }
    }

    static class Stone extends Kind {
        @Override int step(int given, World w, Animal a, int x) { return 0; }
        @Override int worth(Animal a) { return 1; }
    }

    static final Kind[] KINDS = {new Kind(), new Slow(), new Quick(), new Old(), new Wild(), new Stone()};

    static final class Animal {
        int kind, pace, path, age, turned, dead;

        Animal copy() {
            Animal a = new Animal();
            a.kind = kind; a.pace = pace; a.path = path; a.age = age; a.turned = turned; a.dead = dead;
            return a;
        }

        int worth() { return KINDS[kind].worth(this); }

        boolean is(int other) { return KINDS[other].getClass().isInstance(KINDS[kind]); }
    }

    record Bet(int owner, int turtle, int stake) {}

    record Law(int key, int words, ToIntFunction<int[]> value) {}

    static final class World {
        List<Animal> animals = new ArrayList<>();
        List<Bet> bets = new ArrayList<>();
        List<Law> laws = new ArrayList<>();
        int moat = 100, cold = 10, life = 5000, day, z = 1;

        World copy() {
            World w = new World();
            for (Animal a : animals) w.animals.add(a.copy());
            w.bets.addAll(bets);
            w.laws.addAll(laws);
            w.moat = moat; w.cold = cold; w.life = life; w.day = day; w.z = z;
            return w;
        }

        int why(int key) {
            int found = NONE;
            for (int i = 0; i < laws.size(); i++) if (laws.get(i).key == key) found = i;
            return found;
        }

        int by(int key, int without, int... names) {
            return why(key) == NONE ? without : laws.get(why(key)).value.applyAsInt(names);
        }

        int laps(Animal a) {
            int laps = a.path / moat;
            while (laps * moat > a.path) laps--;
            return laps;
        }

        int yard(Animal a) { return a.path - laps(a) * moat; }

        int step(Animal a, int x) {
            int given = by(0, a.pace, a.pace, a.age, cold, x);
            return KINDS[a.kind].step(given < 0 ? 0 : given > 99 ? 99 : given, this, a, x);
        }

        int draw() {
            z = (int) (z * 1103515245L + 12345L);
            return z >>> 8;
        }

        World run(int n) {
            for (int i = 0; i < n; i++) {
                for (Animal a : animals) {
                    if (a.dead == 1) continue;
                    int x = draw() % 10;
                    int far = cold >= 60 ? 0 : step(a, x);
                    a.path = a.turned == 1 ? a.path - far : a.path + far;
                    a.age = a.age + 1;
                    if (a.age >= life) a.dead = 1;
                }
                day++;
            }
            return this;
        }

        int leads() {
            int best = -1;
            for (int i = animals.size() - 1; i >= 0; i--) {
                if (best < 0 || animals.get(i).path >= animals.get(best).path) best = i;
            }
            return best;
        }

        int stakes(int turtle) {
            return bets.stream().filter(b -> turtle < 0 || b.turtle == turtle).mapToInt(Bet::stake).sum();
        }

        int pays(Bet b, int turtle) {
            if (b.turtle != turtle) return 0;
            int pool = stakes(-1), on = stakes(turtle);
            int plain = on == 0 ? 0 : (int) ((long) pool * b.stake / on);
            int paid = by(1, plain, pool, b.stake, on);
            return paid < 0 ? 0 : Math.min(paid, pool);
        }

        int paths() { return animals.stream().mapToInt(a -> a.path).sum(); }
    }

    // ---- state

    World w = new World();
    World image;
    final List<Integer> tape = new ArrayList<>();
    final List<Integer> waiting = new ArrayList<>();
    final Object[] sheets = new Object[4];
    final Object[] slots = new Object[5];

    static boolean out(int v, int least, int most) { return v < least || v > most; }

    boolean noTurtle(int t) { return out(t, 0, w.animals.size() - 1); }

    // ---- turtles

    int turtle(int kind, int pace) {
        if (out(kind, 0, 5) || out(pace, 0, 20)) return BAD;
        if (w.animals.size() == 8) return FULL;
        Animal a = new Animal();
        a.kind = kind;
        a.pace = pace;
        w.animals.add(a);
        return w.animals.size() - 1;
    }

    int told(int t, int what) {
        if (noTurtle(t) || out(what, 0, 8)) return BAD;
        Animal a = w.animals.get(t);
        return new int[] {a.kind, a.pace, a.path, a.age, a.turned, a.dead, w.laps(a), w.yard(a), a.worth()}[what];
    }

    int step(int t, int x) { return noTurtle(t) || out(x, 0, 9) ? BAD : w.step(w.animals.get(t), x); }

    int as(int t, int kind) {
        if (noTurtle(t) || out(kind, 0, 5)) return BAD;
        return w.animals.get(t).is(kind) ? w.animals.get(t).pace : KIND;
    }

    int turns(int t, int kind) {
        if (noTurtle(t) || out(kind, 0, 5)) return BAD;
        int was = w.animals.get(t).kind;
        w.animals.get(t).kind = kind;
        return was;
    }

    int set(int t, int what, int v) {
        if (noTurtle(t) || out(what, 1, 5)) return BAD;
        int[] least = {0, 0, -9999, 0, 0, 0}, most = {0, 20, 9999, 9999, 1, 1};
        if (out(v, least[what], most[what])) return BAD;
        int was = told(t, what);
        Animal a = w.animals.get(t);
        if (what == 1) a.pace = v;
        if (what == 2) a.path = v;
        if (what == 3) a.age = v;
        if (what == 4) a.turned = v;
        if (what == 5) a.dead = v;
        return was;
    }

    int push(int t, int v) {
        if (noTurtle(t) || out(v, -99, 99)) return BAD;
        w.animals.get(t).path += v;
        return told(t, 7);
    }

    int egg(int t, int kind) {
        if (noTurtle(t) || out(kind, 0, 5)) return BAD;
        Animal a = w.animals.get(t);
        if (a.dead == 0) return NO;
        a.dead = 0;
        a.age = 0;
        a.kind = kind;
        return told(t, 6);
    }

    int rule(int what, int v) {
        if (out(what, 0, 2)) return BAD;
        int[] least = {10, 0, 1}, most = {999, 99, 9999};
        if (out(v, least[what], most[what])) return BAD;
        int was = count(3 + what);
        if (what == 0) w.moat = v;
        if (what == 1) w.cold = v;
        if (what == 2) w.life = v;
        return was;
    }

    int deal(int n) {
        if (out(n, 1, 8)) return BAD;
        int came = 0;
        while (came < n && w.animals.size() < 8) {
            int kind = w.draw() % 6;
            turtle(kind, w.draw() % 21);
            came++;
        }
        return came;
    }

    int seed(int v) {
        int was = w.z;
        w.z = v;
        return was;
    }

    int days(int n) {
        if (out(n, 1, 300)) return BAD;
        for (int i = 0; i < n && w.day < 9999; i++) w.run(1);
        return leads();
    }

    int leads() { return w.animals.isEmpty() ? NONE : w.leads(); }

    // ---- wagers

    int wager(int owner, int t, int stake) {
        if (out(owner, 0, 7) || noTurtle(t) || out(stake, 0, 9999)) return BAD;
        if (w.bets.size() == 12) return FULL;
        w.bets.add(new Bet(owner, t, stake));
        return w.bets.size() - 1;
    }

    int wagerTold(int i, int what) {
        if (out(i, 0, w.bets.size() - 1) || out(what, 0, 2)) return BAD;
        Bet b = w.bets.get(i);
        return what == 0 ? b.owner : what == 1 ? b.turtle : b.stake;
    }

    int inherit(int i, int n) {
        if (out(i, 0, w.bets.size() - 1) || out(n, 1, 8)) return BAD;
        if (w.bets.size() - 1 + n > 12) return FULL;
        Bet b = w.bets.get(i);
        w.bets.set(i, new Bet(b.owner, b.turtle, b.stake / n + b.stake % n));
        for (int k = 1; k < n; k++) w.bets.add(new Bet((b.owner + k) % 8, b.turtle, b.stake / n));
        return w.bets.size();
    }

    int pool() { return w.stakes(-1); }

    int pays(int i, int t) {
        return out(i, 0, w.bets.size() - 1) || noTurtle(t) ? BAD : w.pays(w.bets.get(i), t);
    }

    // ---- what will be

    int behind(int t, int n, int what) {
        if (noTurtle(t) || out(n, 0, 300) || out(what, 0, 10)) return BAD;
        World then = w.copy().run(n);
        if (what == 0) return then.animals.get(t).path;
        if (what == 1) return then.laps(then.animals.get(t));
        if (what == 2) return then.leads();
        return then.bets.stream().filter(b -> b.owner == what - 3).mapToInt(b -> then.pays(b, then.leads())).sum();
    }

    int toLaps(int n) {
        if (out(n, 0, 99)) return BAD;
        World then = w.copy();
        for (int k = 0; k <= 300; k++, then.run(1)) {
            int best = -1;
            for (int i = 0; i < then.animals.size(); i++) {
                Animal a = then.animals.get(i);
                if (then.laps(a) >= n && (best < 0 || a.path > then.animals.get(best).path)) best = i;
            }
            if (best >= 0) return best;
        }
        return NONE;
    }

    int meet(int one, int other) {
        if (noTurtle(one) || noTurtle(other)) return BAD;
        World then = w.copy();
        for (int k = 0; k <= 300; k++, then.run(1)) {
            if (then.yard(then.animals.get(one)) == then.yard(then.animals.get(other))) return k;
        }
        return NONE;
    }

    int colder(int t, int n) {
        if (noTurtle(t) || out(n, 1, 60)) return BAD;
        for (int cold = 0; cold <= 99; cold++) {
            World then = w.copy();
            then.cold = cold;
            if (then.run(n).leads() == t) return cold;
        }
        return NONE;
    }

    int stick(int t, int n) {
        if (noTurtle(t) || out(n, 0, 60)) return BAD;
        for (int push = 0; push <= 99; push++) {
            World then = w.copy();
            then.animals.get(t).path += push;
            if (then.run(n).leads() == t) return push;
        }
        return NONE;
    }

    int paced(int sheet, int t, int what) {
        if (out(sheet, 0, 3) || noTurtle(t) || out(what, 0, 1)) return BAD;
        if (sheets[sheet] == null) return NOTHING;
        int best = -1, least = Integer.MAX_VALUE;
        for (int pace = 0; pace <= 20; pace++) {
            int sum = 0;
            for (int k = 0; k < size(sheets[sheet]); k++) {
                World then = w.copy();
                then.animals.get(t).pace = pace;
                then.run(k);
                int v = place(sheets[sheet], k);
                if (v != NONE) sum += Math.abs(v - then.yard(then.animals.get(t)));
            }
            if (sum < least) {
                best = pace;
                least = sum;
            }
        }
        return what == 0 ? best : least;
    }

    int fine(int t) {
        if (noTurtle(t)) return BAD;
        Animal a = w.animals.get(t);
        return w.by(2, w.laps(a), w.laps(a), a.pace);
    }

    // ---- texts

    int feed(int a, int b, int c) {
        if (tape.size() > 84) return FULL;
        for (int v : new int[] {a, b, c}) {
            for (int i = 3; i >= 0; i--) tape.add(v >> 8 * i & 255);
        }
        return tape.size();
    }

    int trim(int n) {
        if (out(n, 0, tape.size())) return BAD;
        tape.subList(n, tape.size()).clear();
        return n;
    }

    int text() {
        StringBuilder s = new StringBuilder();
        for (int b : tape) s.append((char) b);
        tape.clear();
        Law law;
        try {
            law = new Parser(s.toString()).law();
        } catch (Fault f) {
            return -100 - f.place;
        }
        if (w.laws.size() == 14) return FULL;
        w.laws.add(law);
        return w.laws.size() - 1;
    }

    int textTold(int i, int what) {
        if (out(i, 0, w.laws.size() - 1) || out(what, 0, 1)) return BAD;
        return what == 0 ? w.laws.get(i).key : w.laws.get(i).words;
    }

    int why(int key) { return out(key, 0, 2) ? BAD : w.why(key); }

    static final class Fault extends Exception {
        private static final long serialVersionUID = 1;
        final int place;

        Fault(int place) { this.place = place; }
    }

    /** First all words, then one function for each rule of the document. */
    static final class Parser {
        record Word(String s, int place, boolean glued) {}

        final List<Word> words = new ArrayList<>();
        int at, count, open, nots;
        String names = "";

        Parser(String s) {
            java.util.regex.Matcher m = java.util.regex.Pattern.compile("[a-z]+|[0-9]+|[^ ]", java.util.regex.Pattern.DOTALL).matcher(s);
            int last = -1;
            while (m.find()) {
                boolean word = m.group().matches("[a-z]+|[0-9]+");
                words.add(new Word(m.group(), m.start(), word && m.start() == last));
                last = word ? m.end() : -1;
            }
            words.add(new Word("", s.length(), false));
        }

        String here() { return words.get(at).s; }

        boolean take(String any) {
            if (here().length() != 1 || any.indexOf(here()) < 0) return false;
            at++;
            return true;
        }

        Fault fault() { return new Fault(words.get(at).place); }

        Law law() throws Fault {
            int key = List.of("pace", "pay", "fine").indexOf(here());
            if (key < 0) throw fault();
            names = List.of("pacx", "wst", "lp").get(key);
            at++;
            ToIntFunction<int[]> e = or();
            if (!here().isEmpty()) throw fault();
            return new Law(key, count, e);
        }

        ToIntFunction<int[]> or() throws Fault {
            ToIntFunction<int[]> e = and();
            while (take("|")) {
                ToIntFunction<int[]> l = e, r = and();
                e = n -> (l.applyAsInt(n) != 0 ? 1 : 0) | (r.applyAsInt(n) != 0 ? 1 : 0);
            }
            return e;
        }

        ToIntFunction<int[]> and() throws Fault {
            ToIntFunction<int[]> e = test();
            while (take("&")) {
                ToIntFunction<int[]> l = e, r = test();
                e = n -> (l.applyAsInt(n) != 0 ? 1 : 0) & (r.applyAsInt(n) != 0 ? 1 : 0);
            }
            return e;
        }

        ToIntFunction<int[]> test() throws Fault {
            ToIntFunction<int[]> l = sum();
            if (!take("<=>")) return l;
            int want = "<=>".indexOf(words.get(at - 1).s) - 1;
            ToIntFunction<int[]> r = sum();
            return n -> Integer.compare(l.applyAsInt(n), r.applyAsInt(n)) == want ? 1 : 0;
        }

        ToIntFunction<int[]> sum() throws Fault {
            ToIntFunction<int[]> e = term();
            while (take("+-")) {
                int sign = words.get(at - 1).s.equals("+") ? 1 : -1;
                ToIntFunction<int[]> l = e, r = term();
                e = n -> l.applyAsInt(n) + sign * r.applyAsInt(n);
            }
            return e;
        }

        ToIntFunction<int[]> term() throws Fault {
            ToIntFunction<int[]> e = piece();
            while (take("*/")) {
                boolean times = words.get(at - 1).s.equals("*");
                ToIntFunction<int[]> l = e, r = piece();
                e = n -> {
                    int a = l.applyAsInt(n), b = r.applyAsInt(n);
                    return times ? (int) ((long) a * b) : b == 0 ? 0 : (int) ((long) a / b);
                };
            }
            return e;
        }

        ToIntFunction<int[]> piece() throws Fault {
            Word word = words.get(at);
            if (word.s.matches("[0-9]{1,4}") && !word.glued) {
                at++;
                count++;
                int v = Integer.parseInt(word.s);
                return n -> v;
            }
            if (word.s.matches("[a-z]") && !word.glued && names.contains(word.s)) {
                at++;
                count++;
                int v = names.indexOf(word.s);
                return n -> n[v];
            }
            if (word.s.equals("!") && nots < 8) {
                at++;
                nots++;
                ToIntFunction<int[]> e = piece();
                nots--;
                return n -> e.applyAsInt(n) == 0 ? 1 : 0;
            }
            if (word.s.equals("(") && open < 8) {
                at++;
                open++;
                ToIntFunction<int[]> e = or();
                if (!take(")")) throw fault();
                open--;
                return e;
            }
            throw fault();
        }
    }

    // ---- sheets, slots: the machine's own findings

    static int size(Object row) { return row instanceof short[] s ? s.length : ((float[]) row).length; }

    static int place(Object row, int k) {
        if (row instanceof short[] s) return s[k];
        float f = ((float[]) row)[k];
        return Float.isNaN(f) ? NONE : (int) f;
    }

    int sheet(int sheet, int sort, int n) {
        if (out(sheet, 0, 3) || out(sort, -1, 1)) return BAD;
        if (sort == -1) {
            sheets[sheet] = null;
            return 0;
        }
        if (n > 24) return BAD;
        try {
            sheets[sheet] = sort == 0 ? new short[n] : new float[n];
            return n;
        } catch (NegativeArraySizeException e) {
            return SIZE;
        }
    }

    int mark(int sheet, int place, int v) {
        if (out(sheet, 0, 3)) return BAD;
        Object row = sheets[sheet];
        if (row == null) return NOTHING;
        try {
            place(row, place);
        } catch (ArrayIndexOutOfBoundsException e) {
            return INDEX;
        }
        if (row instanceof short[] s) {
            if (v == NONE) return KIND;
            s[place] = (short) v;
            return 1;
        }
        if (v != NONE && out(v, -99999, 99999)) return BAD;
        ((float[]) row)[place] = v == NONE ? Float.NaN : v;
        return 1;
    }

    int pour(int sheet) {
        if (out(sheet, 0, 3)) return BAD;
        Object row = sheets[sheet];
        if (row == null) return NOTHING;
        int otherwise = 0;
        for (int i = 0; i < w.animals.size(); i++) {
            if (i >= size(row) || place(row, i) == NONE) continue;
            int pace = Math.min(20, Math.max(0, place(row, i)));
            if (w.animals.get(i).pace != pace) otherwise++;
            w.animals.get(i).pace = pace;
        }
        return otherwise;
    }

    int reads(int sheet) {
        if (out(sheet, 0, 3)) return BAD;
        Object row = sheets[sheet];
        if (row == null) return NOTHING;
        for (int i = 0; i < size(row); i++) {
            if (place(row, i) != NONE && (noTurtle(i) || place(row, i) != told(i, 7))) return i;
        }
        return NONE;
    }

    int copy(int from, int place, int to, int at, int many) {
        if (out(from, 0, 3) || out(to, 0, 3)) return BAD;
        try {
            System.arraycopy(sheets[from], place, sheets[to], at, many);
            return many;
        } catch (NullPointerException e) {
            return NOTHING;
        } catch (ArrayStoreException e) {
            return KIND;
        } catch (IndexOutOfBoundsException e) {
            return INDEX;
        }
    }

    static int thing(Object held) {
        return held == null ? 0 : held instanceof Animal ? 1 : held instanceof Integer ? 3 : 2;
    }

    int lay(int slot, int thing, int k) {
        if (out(slot, 0, 4) || out(thing, 0, 3)) return BAD;
        int was = thing(slots[slot]);
        if (thing == 1 && noTurtle(k) || thing == 2 && out(k, 0, 3)) return BAD;
        if (thing == 2 && sheets[k] == null) return NOTHING;
        if (thing == 0) slots[slot] = null;
        if (thing == 1) slots[slot] = w.animals.get(k).copy();
        if (thing == 2) slots[slot] = sheets[k] instanceof short[] s ? (Object) s.clone() : ((float[]) sheets[k]).clone();
        if (thing == 3) slots[slot] = k;
        return was;
    }

    int ask(int slot, int kind) {
        if (out(slot, 0, 4) || out(kind, 0, 5)) return BAD;
        if (slots[slot] == null) return NOTHING;
        return slots[slot] instanceof Animal a && a.is(kind) ? a.worth() : KIND;
    }

    int item(int slot, int place) {
        if (out(slot, 0, 4)) return BAD;
        if (slots[slot] == null) return NOTHING;
        if (thing(slots[slot]) != 2) return KIND;
        try {
            int v = place(slots[slot], place);
            return v == NONE ? KIND : v;
        } catch (ArrayIndexOutOfBoundsException e) {
            return INDEX;
        }
    }

    int rest(int slot, int n) {
        if (out(slot, 0, 4)) return BAD;
        if (slots[slot] == null) return NOTHING;
        try {
            return (Integer) slots[slot] % n;
        } catch (ClassCastException e) {
            return KIND;
        } catch (ArithmeticException e) {
            return NO;
        }
    }

    // ---- rows, images

    int tell(int v) {
        if (waiting.size() == 60) return FULL;
        waiting.add(v);
        return waiting.size();
    }

    int check(int n) {
        List<Integer> were = new ArrayList<>(waiting);
        waiting.clear();
        if (out(n, 1, 30)) return BAD;
        if (image == null) return NO;
        List<Integer> due = daysTold(n);
        int same = 0;
        while (same < were.size() && same < due.size() && were.get(same).equals(due.get(same))) same++;
        return same == were.size() && same == due.size() ? 0 : 1 + same;
    }

    List<Integer> daysTold(int n) {
        List<Integer> due = new ArrayList<>();
        World then = image.copy();
        for (int i = 0; i < n && then.day < 9999; i++) {
            then.run(1);
            due.addAll(Arrays.asList(then.leads(), then.paths()));
        }
        return due;
    }

    int keep() {
        image = w.copy();
        return w.animals.size();
    }

    int back() {
        if (image == null) return NO;
        w = image.copy();
        return w.animals.size();
    }

    int count(int what) {
        if (out(what, 0, 11)) return BAD;
        int dead = (int) w.animals.stream().filter(a -> a.dead == 1).count();
        return new int[] {w.animals.size(), dead, w.day, w.moat, w.cold, w.life, w.bets.size(),
            w.paths(), w.laws.size(), waiting.size(), tape.size(), w.z}[what];
    }
}
