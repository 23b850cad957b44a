/**
 * Turtles that go round a moat for a bet, as the document tells: every call answers an int, and a
 * call that is refused answers BAD, NO, FULL or a finding and changes nothing.
 *
 * <p>The rows that calls need are made by the constructor and used again; only text() makes an
 * object, its Reader.
 */
public final class TurtleBet {
    public static final int BAD = -1000000001, NO = -1000000002, FULL = -1000000003,
            NONE = -1000000005, NOTHING = -1000000011, KIND = -1000000012, INDEX = -1000000013,
            SIZE = -1000000014;

    private static final int TURTLES = 8, WAGERS = 12, OWNERS = 8, TEXTS = 14, TAPE = 96;
    private static final int SHEETS = 4, PLACES = 24, SLOTS = 5, WAITING = 60;
    private static final int LAST_DAY = 9999, LONGEST = 300, SOON = 60, TOLD_DAYS = 30;
    private static final int FASTEST = 20, FARTHEST = 9999, OLDEST = 9999, HARDEST = 99;
    private static final int MOST_STAKE = 9999, MOST_HEIRS = 8, MOST_LAPS = 99;
    private static final int MOST_FLOAT = 99999;
    private static final int ICE = 60, WARM = 20, COLDEST = 99;

    private static final int TURTLE = 0, SLOW = 1, QUICK = 2, OLD = 3, WILD = 4, STONE = 5;
    private static final int KINDS = 6;
    /** The kind right above each kind; above TURTLE there is none. */
    private static final int[] ABOVE = {-1, TURTLE, TURTLE, SLOW, QUICK, TURTLE};

    private static final int PACE = 0, PAY = 1, FINE = 2, KEYS = 3;

    private static final int MISSING = -1, SHORTS = 0, FLOATS = 1;

    private static final int HOLDS_NOTHING = 0, HOLDS_TURTLE = 1, HOLDS_SHEET = 2,
            HOLDS_NUMBER = 3;

    private final Laws laws = new Laws();
    private final Moat now = new Moat(laws);
    private final Moat image = new Moat(laws);
    /** What is only thought is tried out here, so that nothing changes. */
    private final Moat thought = new Moat(laws);
    private boolean kept;
    private final int[] tape = new int[TAPE];
    private int fed;
    private final Sheet[] sheets = new Sheet[SHEETS];
    private final Slot[] slots = new Slot[SLOTS];
    private final int[] waiting = new int[WAITING];
    private int waits;

    public TurtleBet() {
        for (int i = 0; i < SHEETS; i++) {
            sheets[i] = new Sheet();
        }
        for (int i = 0; i < SLOTS; i++) {
            slots[i] = new Slot();
        }
    }

    // ---- turtles

    public int turtle(int kind, int pace) {
        if (!isKind(kind) || !within(pace, 0, FASTEST)) {
            return BAD;
        }
        if (now.turtles >= TURTLES) {
            return FULL;
        }
        return now.addTurtle(kind, pace);
    }

    public int told(int turtle, int what) {
        if (!now.hasTurtle(turtle)) {
            return BAD;
        }
        Turtle one = now.herd[turtle];
        switch (what) {
            case 0: return one.kind;
            case 1: return one.pace;
            case 2: return one.path;
            case 3: return one.age;
            case 4: return one.turned ? 1 : 0;
            case 5: return one.dead ? 1 : 0;
            case 6: return now.lapsOf(one);
            case 7: return now.yardOf(one);
            case 8: return one.worth();
            default: return BAD;
        }
    }

    public int step(int turtle, int x) {
        if (!now.hasTurtle(turtle) || !within(x, 0, 9)) {
            return BAD;
        }
        return now.stepOf(now.herd[turtle], x);
    }

    public int as(int turtle, int kind) {
        if (!now.hasTurtle(turtle) || !isKind(kind)) {
            return BAD;
        }
        Turtle one = now.herd[turtle];
        return one.isOf(kind) ? one.pace : KIND;
    }

    public int turns(int turtle, int kind) {
        if (!now.hasTurtle(turtle) || !isKind(kind)) {
            return BAD;
        }
        Turtle one = now.herd[turtle];
        int was = one.kind;
        one.kind = kind;
        return was;
    }

    public int set(int turtle, int what, int v) {
        if (!now.hasTurtle(turtle) || !isSettable(what, v)) {
            return BAD;
        }
        int was = told(turtle, what);
        Turtle one = now.herd[turtle];
        switch (what) {
            case 1: one.pace = v; break;
            case 2: one.path = v; break;
            case 3: one.age = v; break;
            case 4: one.turned = v == 1; break;
            default: one.dead = v == 1; break;
        }
        return was;
    }

    private static boolean isSettable(int what, int v) {
        switch (what) {
            case 1: return within(v, 0, FASTEST);
            case 2: return within(v, -FARTHEST, FARTHEST);
            case 3: return within(v, 0, OLDEST);
            case 4: return within(v, 0, 1);
            case 5: return within(v, 0, 1);
            default: return false;
        }
    }

    public int push(int turtle, int v) {
        if (!now.hasTurtle(turtle) || !within(v, -HARDEST, HARDEST)) {
            return BAD;
        }
        Turtle one = now.herd[turtle];
        one.path += v;
        return now.yardOf(one);
    }

    public int egg(int turtle, int kind) {
        if (!now.hasTurtle(turtle) || !isKind(kind)) {
            return BAD;
        }
        Turtle one = now.herd[turtle];
        if (!one.dead) {
            return NO;
        }
        one.dead = false;
        one.age = 0;
        one.kind = kind;
        return now.lapsOf(one);
    }

    public int rule(int what, int v) {
        int was;
        if (what == 0 && within(v, 10, 999)) {
            was = now.yards;
            now.yards = v;
        } else if (what == 1 && within(v, 0, COLDEST)) {
            was = now.cold;
            now.cold = v;
        } else if (what == 2 && within(v, 1, OLDEST)) {
            was = now.life;
            now.life = v;
        } else {
            was = BAD;
        }
        return was;
    }

    public int deal(int n) {
        if (!within(n, 1, TURTLES)) {
            return BAD;
        }
        int come = Math.min(n, TURTLES - now.turtles);
        for (int i = 0; i < come; i++) {
            int kind = now.draw() % KINDS;
            int pace = now.draw() % (FASTEST + 1);
            now.addTurtle(kind, pace);
        }
        return come;
    }

    public int seed(int v) {
        int was = now.z;
        now.z = v;
        return was;
    }

    public int days(int n) {
        if (!within(n, 1, LONGEST)) {
            return BAD;
        }
        now.goDays(Math.min(n, LAST_DAY - now.day));
        return leads();
    }

    public int leads() {
        return now.turtles == 0 ? NONE : now.ahead();
    }

    // ---- wagers

    public int wager(int owner, int turtle, int stake) {
        if (!isOwner(owner) || !now.hasTurtle(turtle) || !within(stake, 0, MOST_STAKE)) {
            return BAD;
        }
        if (now.wagers >= WAGERS) {
            return FULL;
        }
        return now.addWager(owner, turtle, stake);
    }

    public int wagerTold(int wager, int what) {
        if (!now.hasWager(wager)) {
            return BAD;
        }
        Wager bet = now.bets[wager];
        switch (what) {
            case 0: return bet.owner;
            case 1: return bet.turtle;
            case 2: return bet.stake;
            default: return BAD;
        }
    }

    public int inherit(int wager, int n) {
        if (!now.hasWager(wager) || !within(n, 1, MOST_HEIRS)) {
            return BAD;
        }
        if (now.wagers + n - 1 > WAGERS) {
            return FULL;
        }
        Wager first = now.bets[wager];
        int share = first.stake / n;
        first.stake -= share * (n - 1);
        for (int heir = 1; heir < n; heir++) {
            now.addWager((first.owner + heir) % OWNERS, first.turtle, share);
        }
        return now.wagers;
    }

    public int pool() {
        return now.stakesOfAll();
    }

    public int pays(int wager, int turtle) {
        if (!now.hasWager(wager) || !now.hasTurtle(turtle)) {
            return BAD;
        }
        return now.paidFor(now.bets[wager], turtle);
    }

    // ---- what will be

    public int behind(int turtle, int n, int what) {
        if (!now.hasTurtle(turtle) || !within(n, 0, LONGEST) || !within(what, 0, 2 + OWNERS)) {
            return BAD;
        }
        thought.become(now);
        thought.goDays(n);
        switch (what) {
            case 0: return thought.herd[turtle].path;
            case 1: return thought.lapsOf(thought.herd[turtle]);
            case 2: return thought.ahead();
            default: return thought.paidTo(what - 3, thought.ahead());
        }
    }

    public int toLaps(int n) {
        if (!within(n, 0, MOST_LAPS)) {
            return BAD;
        }
        if (now.turtles == 0) {
            return NONE;
        }
        thought.become(now);
        for (int gone = 0; gone <= LONGEST; gone++) {
            // The greatest PATH has the most LAPS: nobody has n before the one that is ahead.
            int ahead = thought.ahead();
            if (thought.hasTurtle(ahead) && thought.lapsOf(thought.herd[ahead]) >= n) {
                return ahead;
            }
            thought.goDay();
        }
        return NONE;
    }

    public int meet(int one, int other) {
        if (!now.hasTurtle(one) || !now.hasTurtle(other)) {
            return BAD;
        }
        thought.become(now);
        for (int gone = 0; gone <= LONGEST; gone++) {
            if (thought.yardOf(thought.herd[one]) == thought.yardOf(thought.herd[other])) {
                return gone;
            }
            thought.goDay();
        }
        return NONE;
    }

    public int colder(int turtle, int n) {
        if (!now.hasTurtle(turtle) || !within(n, 1, SOON)) {
            return BAD;
        }
        // With ICE nobody moves, so whatever is colder than the first ICE ends like it.
        for (int cold = 0; cold <= ICE; cold++) {
            thought.become(now);
            thought.cold = cold;
            thought.goDays(n);
            if (thought.ahead() == turtle) {
                return cold;
            }
        }
        return NONE;
    }

    public int stick(int turtle, int n) {
        if (!now.hasTurtle(turtle) || !within(n, 0, SOON)) {
            return BAD;
        }
        thought.become(now);
        thought.goDays(n);
        // No STEP looks at PATH, so a push now is as many yards more behind n DAYS.
        for (int more = 0; more <= HARDEST; more++) {
            if (thought.ahead() == turtle) {
                return more;
            }
            thought.herd[turtle].path++;
        }
        return NONE;
    }

    public int paced(int sheet, int turtle, int what) {
        if (!isSheet(sheet) || !now.hasTurtle(turtle) || !within(what, 0, 1)) {
            return BAD;
        }
        Sheet row = sheets[sheet];
        if (row.isMissing()) {
            return NOTHING;
        }
        int best = 0;
        int least = differences(row, turtle, 0);
        for (int pace = 1; pace <= FASTEST; pace++) {
            int found = differences(row, turtle, pace);
            if (found < least) {
                best = pace;
                least = found;
            }
        }
        return what == 0 ? best : least;
    }

    private int differences(Sheet row, int turtle, int pace) {
        thought.become(now);
        Turtle one = thought.herd[turtle];
        one.pace = pace;
        int sum = 0;
        for (int k = 0; k < row.size; k++) {
            if (row.isNumber(k)) {
                sum += Math.abs(thought.yardOf(one) - row.places[k]);
            }
            thought.goDay();
        }
        return sum;
    }

    public int fine(int turtle) {
        if (!now.hasTurtle(turtle)) {
            return BAD;
        }
        return now.fineFor(now.herd[turtle]);
    }

    // ---- texts

    public int feed(int a, int b, int c) {
        if (fed + 12 > TAPE) {
            return FULL;
        }
        feedFour(a);
        feedFour(b);
        feedFour(c);
        return fed;
    }

    private void feedFour(int v) {
        for (int shift = 24; shift >= 0; shift -= 8) {
            if (fed < TAPE) {
                tape[fed] = (v >>> shift) & 255;
                fed++;
            }
        }
    }

    public int trim(int n) {
        if (!within(n, 0, fed)) {
            return BAD;
        }
        fed = n;
        return n;
    }

    public int text() {
        int size = fed;
        fed = 0;
        // Those of THE IMAGE are always the first of those that stand now, so this row is free.
        Text next = laws.rowOf(now.texts);
        int fault = new Reader(tape, size, next).fault();
        if (fault >= 0) {
            return -100 - fault;
        }
        if (now.texts >= TEXTS) {
            return FULL;
        }
        now.counting[next.key] = now.texts;
        now.texts++;
        return now.texts - 1;
    }

    public int textTold(int text, int what) {
        if (!within(text, 0, now.texts - 1)) {
            return BAD;
        }
        switch (what) {
            case 0: return laws.rowOf(text).key;
            case 1: return laws.rowOf(text).words;
            default: return BAD;
        }
    }

    public int why(int key) {
        if (!within(key, 0, KEYS - 1)) {
            return BAD;
        }
        return now.counting[key];
    }

    // ---- sheets, slots

    public int sheet(int sheet, int sort, int n) {
        if (!isSheet(sheet) || !within(sort, MISSING, FLOATS)) {
            return BAD;
        }
        if (sort == MISSING) {
            sheets[sheet].clear(MISSING, 0);
            return 0;
        }
        if (n > PLACES) {
            return BAD;
        }
        if (n < 0) {
            return SIZE;
        }
        sheets[sheet].clear(sort, n);
        return n;
    }

    public int mark(int sheet, int place, int v) {
        if (!isSheet(sheet)) {
            return BAD;
        }
        Sheet row = sheets[sheet];
        if (row.isMissing()) {
            return NOTHING;
        }
        if (!row.hasPlace(place)) {
            return INDEX;
        }
        if (row.sort == SHORTS && v == NONE) {
            return KIND;
        }
        if (row.sort == FLOATS && v != NONE && !within(v, -MOST_FLOAT, MOST_FLOAT)) {
            return BAD;
        }
        row.places[place] = row.sort == SHORTS ? (short) v : v;
        return 1;
    }

    public int pour(int sheet) {
        if (!isSheet(sheet)) {
            return BAD;
        }
        Sheet row = sheets[sheet];
        if (row.isMissing()) {
            return NOTHING;
        }
        int otherwise = 0;
        for (int i = 0; i < now.turtles && i < row.size; i++) {
            Turtle one = now.herd[i];
            int pace = row.isNumber(i) ? held(row.places[i], FASTEST) : one.pace;
            if (pace != one.pace) {
                one.pace = pace;
                otherwise++;
            }
        }
        return otherwise;
    }

    public int reads(int sheet) {
        if (!isSheet(sheet)) {
            return BAD;
        }
        Sheet row = sheets[sheet];
        if (row.isMissing()) {
            return NOTHING;
        }
        for (int i = 0; i < row.size; i++) {
            if (row.isNumber(i) && !isYard(row.places[i], i)) {
                return i;
            }
        }
        return NONE;
    }

    private boolean isYard(int v, int turtle) {
        return now.hasTurtle(turtle) && now.yardOf(now.herd[turtle]) == v;
    }

    public int copy(int from, int place, int to, int at, int many) {
        if (!isSheet(from) || !isSheet(to)) {
            return BAD;
        }
        Sheet source = sheets[from];
        Sheet target = sheets[to];
        if (source.isMissing() || target.isMissing()) {
            return NOTHING;
        }
        if (source.sort != target.sort) {
            return KIND;
        }
        if (!source.hasRow(place, many) || !target.hasRow(at, many)) {
            return INDEX;
        }
        System.arraycopy(source.places, place, target.places, at, many);
        return many;
    }

    public int lay(int slot, int thing, int k) {
        if (!isSlot(slot) || !within(thing, HOLDS_NOTHING, HOLDS_NUMBER)) {
            return BAD;
        }
        if (thing == HOLDS_TURTLE && !now.hasTurtle(k) || thing == HOLDS_SHEET && !isSheet(k)) {
            return BAD;
        }
        if (thing == HOLDS_SHEET && sheets[k].isMissing()) {
            return NOTHING;
        }
        Slot place = slots[slot];
        int before = place.thing;
        place.thing = thing;
        if (thing == HOLDS_TURTLE) {
            place.turtle.become(now.herd[k]);
        } else if (thing == HOLDS_SHEET) {
            place.sheet.become(sheets[k]);
        } else {
            place.number = k;
        }
        return before;
    }

    public int ask(int slot, int kind) {
        if (!isSlot(slot) || !isKind(kind)) {
            return BAD;
        }
        Slot place = slots[slot];
        if (place.thing != HOLDS_TURTLE) {
            return place.finding();
        }
        return place.turtle.isOf(kind) ? place.turtle.worth() : KIND;
    }

    public int item(int slot, int place) {
        if (!isSlot(slot)) {
            return BAD;
        }
        Slot from = slots[slot];
        if (from.thing != HOLDS_SHEET) {
            return from.finding();
        }
        if (!from.sheet.hasPlace(place)) {
            return INDEX;
        }
        return from.sheet.isNumber(place) ? from.sheet.places[place] : KIND;
    }

    public int rest(int slot, int n) {
        if (!isSlot(slot)) {
            return BAD;
        }
        Slot from = slots[slot];
        if (from.thing != HOLDS_NUMBER) {
            return from.finding();
        }
        return n == 0 ? NO : from.number % n;
    }

    // ---- rows, images

    public int tell(int v) {
        if (waits >= WAITING) {
            return FULL;
        }
        waiting[waits] = v;
        waits++;
        return waits;
    }

    public int check(int n) {
        int many = waits;
        waits = 0;
        if (!within(n, 1, TOLD_DAYS)) {
            return BAD;
        }
        if (!kept) {
            return NO;
        }
        int due = Math.min(n, LAST_DAY - image.day);
        thought.become(image);
        for (int gone = 0; gone < due; gone++) {
            thought.goDay();
            if (!waitsAt(2 * gone, many, thought.ahead())) {
                return 1 + 2 * gone;
            }
            if (!waitsAt(2 * gone + 1, many, thought.pathsOfAll())) {
                return 2 + 2 * gone;
            }
        }
        return many > 2 * due ? 1 + 2 * due : 0;
    }

    private boolean waitsAt(int place, int many, int v) {
        return place < many && place < WAITING && waiting[place] == v;
    }

    public int keep() {
        image.become(now);
        kept = true;
        return now.turtles;
    }

    public int back() {
        if (!kept) {
            return NO;
        }
        now.become(image);
        return now.turtles;
    }

    public int count(int what) {
        switch (what) {
            case 0: return now.turtles;
            case 1: return now.deadOnes();
            case 2: return now.day;
            case 3: return now.yards;
            case 4: return now.cold;
            case 5: return now.life;
            case 6: return now.wagers;
            case 7: return now.pathsOfAll();
            case 8: return now.texts;
            case 9: return waits;
            case 10: return fed;
            case 11: return now.z;
            default: return BAD;
        }
    }

    // ---- bounds

    private static boolean within(int v, int least, int most) {
        return v >= least && v <= most;
    }

    private static int held(int v, int most) {
        return Math.max(0, Math.min(v, most));
    }

    private static boolean isKind(int v) {
        return within(v, 0, KINDS - 1);
    }

    private static boolean isOwner(int v) {
        return within(v, 0, OWNERS - 1);
    }

    private static boolean isSheet(int v) {
        return within(v, 0, SHEETS - 1);
    }

    private static boolean isSlot(int v) {
        return within(v, 0, SLOTS - 1);
    }

    /** One turtle, and what is known of it without the moat. */
    private static final class Turtle {
        int kind;
        int pace;
        int path;
        int age;
        boolean turned;
        boolean dead;

        void hatch(int ofKind, int withPace) {
            kind = ofKind;
            pace = withPace;
            path = 0;
            age = 0;
            turned = false;
            dead = false;
        }

        void become(Turtle other) {
            kind = other.kind;
            pace = other.pace;
            path = other.path;
            age = other.age;
            turned = other.turned;
            dead = other.dead;
        }

        boolean isOf(int wanted) {
            int at = kind;
            for (int up = 0; up < KINDS && isKind(at); up++) {
                if (at == wanted) {
                    return true;
                }
                at = ABOVE[at];
            }
            return false;
        }

        int worth() {
            switch (kind) {
                case SLOW: return pace + 30;
                case OLD: return 2 * (pace + 30);
                case QUICK: return 50 - pace;
                case WILD: return 50 - pace - 8;
                case STONE: return 1;
                default: return pace;
            }
        }
    }

    private static final class Wager {
        int owner;
        int turtle;
        int stake;

        void become(Wager other) {
            owner = other.owner;
            turtle = other.turtle;
            stake = other.stake;
        }
    }

    /** All that an image keeps: turtles, wagers, rules, the day, z, and which texts stand. */
    private static final class Moat {
        final Laws laws;
        final Turtle[] herd = new Turtle[TURTLES];
        final Wager[] bets = new Wager[WAGERS];
        /** By keys: the text that counts, or NONE. */
        final int[] counting = {NONE, NONE, NONE};
        int turtles;
        int wagers;
        int texts;
        int yards = 100;
        int cold = 10;
        int life = 5000;
        int day;
        int z = 1;

        Moat(Laws laws) {
            this.laws = laws;
            for (int i = 0; i < TURTLES; i++) {
                herd[i] = new Turtle();
            }
            for (int i = 0; i < WAGERS; i++) {
                bets[i] = new Wager();
            }
        }

        void become(Moat other) {
            turtles = other.turtles;
            for (int i = 0; i < turtles; i++) {
                herd[i].become(other.herd[i]);
            }
            wagers = other.wagers;
            for (int i = 0; i < wagers; i++) {
                bets[i].become(other.bets[i]);
            }
            texts = other.texts;
            for (int i = 0; i < KEYS; i++) {
                counting[i] = other.counting[i];
            }
            yards = other.yards;
            cold = other.cold;
            life = other.life;
            day = other.day;
            z = other.z;
        }

        boolean hasTurtle(int v) {
            return within(v, 0, turtles - 1);
        }

        boolean hasWager(int v) {
            return within(v, 0, wagers - 1);
        }

        /** Its number; the calls have looked whether there is room. */
        int addTurtle(int kind, int pace) {
            herd[turtles].hatch(kind, pace);
            turtles++;
            return turtles - 1;
        }

        /** Its number; the calls have looked whether there is room. */
        int addWager(int owner, int turtle, int stake) {
            Wager bet = bets[wagers];
            bet.owner = owner;
            bet.turtle = turtle;
            bet.stake = stake;
            wagers++;
            return wagers - 1;
        }

        int draw() {
            z = z * 1103515245 + 12345;
            return z >>> 8;
        }

        int lapsOf(Turtle one) {
            return Math.floorDiv(one.path, yards);
        }

        int yardOf(Turtle one) {
            return Math.floorMod(one.path, yards);
        }

        int stepOf(Turtle one, int x) {
            switch (one.kind) {
                case SLOW: return plainStep(one, x) / 2;
                case OLD: return Math.max(0, plainStep(one, x) / 2 - one.age / 1000);
                case QUICK: return plainStep(one, x) + haste();
                case WILD: return plainStep(one, x) + haste() + x;
                case STONE: return 0;
                default: return plainStep(one, x);
            }
        }

        private int plainStep(Turtle one, int x) {
            int text = counting[PACE];
            return text == NONE ? one.pace : held(laws.gives(text, one.pace, one.age, cold, x), 99);
        }

        private int haste() {
            return cold < WARM ? 3 : 0;
        }

        void goDays(int n) {
            for (int gone = 0; gone < n; gone++) {
                goDay();
            }
        }

        void goDay() {
            for (int i = 0; i < turtles; i++) {
                Turtle one = herd[i];
                if (!one.dead) {
                    int x = draw() % 10;
                    int far = cold >= ICE ? 0 : stepOf(one, x);
                    one.path += one.turned ? -far : far;
                    one.age++;
                    one.dead = one.age >= life;
                }
            }
            day++;
        }

        /** Who leads, or -1 without turtles. */
        int ahead() {
            int first = -1;
            for (int i = 0; i < turtles; i++) {
                if (first < 0 || herd[i].path > herd[first].path) {
                    first = i;
                }
            }
            return first;
        }

        int pathsOfAll() {
            int sum = 0;
            for (int i = 0; i < turtles; i++) {
                sum += herd[i].path;
            }
            return sum;
        }

        int deadOnes() {
            int many = 0;
            for (int i = 0; i < turtles; i++) {
                many += herd[i].dead ? 1 : 0;
            }
            return many;
        }

        int stakesOfAll() {
            int sum = 0;
            for (int i = 0; i < wagers; i++) {
                sum += bets[i].stake;
            }
            return sum;
        }

        private int stakesOn(int turtle) {
            int sum = 0;
            for (int i = 0; i < wagers; i++) {
                sum += bets[i].turtle == turtle ? bets[i].stake : 0;
            }
            return sum;
        }

        int paidFor(Wager bet, int turtle) {
            if (bet.turtle != turtle) {
                return 0;
            }
            int all = stakesOfAll();
            int onIt = stakesOn(turtle);
            int text = counting[PAY];
            if (text != NONE) {
                return held(laws.gives(text, all, bet.stake, onIt, 0), all);
            }
            return onIt == 0 ? 0 : (int) ((long) all * bet.stake / onIt);
        }

        int paidTo(int owner, int turtle) {
            int sum = 0;
            for (int i = 0; i < wagers; i++) {
                sum += bets[i].owner == owner ? paidFor(bets[i], turtle) : 0;
            }
            return sum;
        }

        int fineFor(Turtle one) {
            int text = counting[FINE];
            return text == NONE ? lapsOf(one) : laws.gives(text, lapsOf(one), one.pace, 0, 0);
        }
    }

    /** A text as a row of codes, what is joined standing ahead of its sign. */
    private static final class Text {
        /** A code below NAME is a number, one below SIGN a name's place, others a sign's byte. */
        static final int NAME = 10000, SIGN = 10100;

        final int[] codes = new int[TAPE];
        int size;
        int key;
        int words;

        void clear() {
            size = 0;
            words = 0;
        }

        /** A tape has no more words and signs than bytes, so there is room for all of them. */
        void add(int code) {
            if (size < TAPE) {
                codes[size] = code;
                size++;
            }
        }

        void addWord(int code) {
            add(code);
            words++;
        }
    }

    /** The rows of all texts, and how they are worked out. */
    private static final class Laws {
        /** One row more than texts can stand: a tape is read for its fault when they are full. */
        private final Text[] rows = new Text[TEXTS + 1];
        private final int[] names = new int[4];
        private final int[] stack = new int[TAPE];

        Laws() {
            for (int i = 0; i <= TEXTS; i++) {
                rows[i] = new Text();
            }
        }

        Text rowOf(int text) {
            return rows[Math.max(0, Math.min(text, TEXTS))];
        }

        int gives(int text, int first, int second, int third, int fourth) {
            names[0] = first;
            names[1] = second;
            names[2] = third;
            names[3] = fourth;
            Text law = rowOf(text);
            int top = 0;
            for (int i = 0; i < law.size; i++) {
                int code = law.codes[i];
                if (code < Text.SIGN && top < TAPE) {
                    stack[top] = code < Text.NAME ? code : names[(code - Text.NAME) & 3];
                    top++;
                } else if (code == Text.SIGN + '!' && top > 0) {
                    stack[top - 1] = stack[top - 1] == 0 ? 1 : 0;
                } else if (top > 1) {
                    top--;
                    stack[top - 1] = joined(code - Text.SIGN, stack[top - 1], stack[top]);
                }
            }
            return stack[0];
        }

        private static int joined(int sign, int left, int right) {
            switch (sign) {
                case '|': return left != 0 || right != 0 ? 1 : 0;
                case '&': return left != 0 && right != 0 ? 1 : 0;
                case '<': return left < right ? 1 : 0;
                case '=': return left == right ? 1 : 0;
                case '>': return left > right ? 1 : 0;
                case '+': return left + right;
                case '-': return left - right;
                case '*': return left * right;
                default: return right == 0 ? 0 : left / right;
            }
        }
    }

    /** Reads a tape, word by word, into a text; it stands at the first word that goes wrong. */
    private static final class Reader {
        private static final int BLANK = 32, DEEPEST = 8, DIGITS = 4;
        private static final int OR = 0, TEST = 2, TERM = 4;
        private static final int END = 0, MARK = 1, NUMBER = 2, WORD = 3;

        private final int[] tape;
        private final int size;
        private final Text into;
        /** The word or sign at which it stands: its first byte, the place behind it, its sort. */
        private int start;
        private int end;
        private int sort = END;
        /** It stands right behind a word, without a blank; a word must not. */
        private boolean glued;

        Reader(int[] tape, int size, Text into) {
            this.tape = tape;
            this.size = size;
            this.into = into;
        }

        /** The place of the fault, or -1 if there is none. */
        int fault() {
            into.clear();
            advance();
            boolean right = readKey() && readJoined(OR, 0, 0) && sort == END;
            return right ? -1 : start;
        }

        private void advance() {
            boolean behindWord = sort == NUMBER || sort == WORD;
            int before = end;
            start = before;
            while (start < size && tape[start] == BLANK) {
                start++;
            }
            sort = start < size ? sortOf(tape[start]) : END;
            glued = behindWord && start == before;
            end = sort == END ? start : start + 1;
            while (sort != MARK && end < size && sortOf(tape[end]) == sort) {
                end++;
            }
        }

        private static int sortOf(int b) {
            if (b >= 'a' && b <= 'z') {
                return WORD;
            }
            return b >= '0' && b <= '9' ? NUMBER : MARK;
        }

        private boolean readKey() {
            if (isWord("pace")) {
                into.key = PACE;
            } else if (isWord("pay")) {
                into.key = PAY;
            } else if (isWord("fine")) {
                into.key = FINE;
            } else {
                return false;
            }
            advance();
            return true;
        }

        private boolean isWord(String word) {
            if (sort != WORD || end - start != word.length()) {
                return false;
            }
            for (int i = 0; i < word.length(); i++) {
                if (tape[start + i] != word.charAt(i)) {
                    return false;
                }
            }
            return true;
        }

        /** Reads what is joined by signs of a looseness (0 the loosest) or by tighter ones. */
        private boolean readJoined(int looseness, int open, int nots) {
            if (looseness > TERM) {
                return readPiece(open, nots);
            }
            if (!readJoined(looseness + 1, open, nots)) {
                return false;
            }
            int most = looseness == TEST ? 1 : TAPE;
            for (int i = 0; i < most && loosenessHere() == looseness; i++) {
                int sign = tape[start];
                advance();
                if (!readJoined(looseness + 1, open, nots)) {
                    return false;
                }
                into.add(Text.SIGN + sign);
            }
            return true;
        }

        private int loosenessHere() {
            if (sort != MARK) {
                return -1;
            }
            switch (tape[start]) {
                case '|': return OR;
                case '&': return 1;
                case '<': case '=': case '>': return TEST;
                case '+': case '-': return 3;
                case '*': case '/': return TERM;
                default: return -1;
            }
        }

        private boolean readPiece(int open, int nots) {
            if (sort == NUMBER || sort == WORD) {
                int code = sort == NUMBER ? numberHere() : nameHere();
                if (glued || code < 0) {
                    return false;
                }
                into.addWord(code);
                advance();
                return true;
            }
            if (isMark('!') && nots < DEEPEST) {
                advance();
                if (!readPiece(open, nots + 1)) {
                    return false;
                }
                into.add(Text.SIGN + '!');
                return true;
            }
            if (isMark('(') && open < DEEPEST) {
                advance();
                if (!readJoined(OR, open + 1, nots) || !isMark(')')) {
                    return false;
                }
                advance();
                return true;
            }
            return false;
        }

        private boolean isMark(char sign) {
            return sort == MARK && tape[start] == sign;
        }

        /** Its code, or -1 if it is too long. */
        private int numberHere() {
            if (end - start > DIGITS) {
                return -1;
            }
            int value = 0;
            for (int i = start; i < end; i++) {
                value = value * 10 + tape[i] - '0';
            }
            return value;
        }

        /** Its code, or -1 if the key has no such name. */
        private int nameHere() {
            int name = end - start == 1 ? namesOf(into.key).indexOf((char) tape[start]) : -1;
            return name < 0 ? -1 : Text.NAME + name;
        }

        private static String namesOf(int key) {
            switch (key) {
                case PACE: return "pacx";
                case PAY: return "wst";
                default: return "lp";
            }
        }
    }

    /** A row of places; the size of one that is missing is 0. */
    private static final class Sheet {
        int sort = MISSING;
        int size;
        /** A place that is no number holds NONE, which no number in a row can be. */
        final int[] places = new int[PLACES];

        void clear(int ofSort, int many) {
            sort = ofSort;
            size = many;
            for (int i = 0; i < PLACES; i++) {
                places[i] = 0;
            }
        }

        void become(Sheet other) {
            sort = other.sort;
            size = other.size;
            System.arraycopy(other.places, 0, places, 0, PLACES);
        }

        boolean isMissing() {
            return sort == MISSING;
        }

        boolean hasPlace(int place) {
            return within(place, 0, size - 1);
        }

        boolean hasRow(int place, int many) {
            return within(many, 0, size) && within(place, 0, size - many);
        }

        boolean isNumber(int place) {
            return hasPlace(place) && places[place] != NONE;
        }
    }

    private static final class Slot {
        int thing = HOLDS_NOTHING;
        final Turtle turtle = new Turtle();
        final Sheet sheet = new Sheet();
        int number;

        /** Why it does not hold what is asked for. */
        int finding() {
            return thing == HOLDS_NOTHING ? NOTHING : KIND;
        }
    }
}
