import java.lang.reflect.InvocationTargetException;
import java.lang.reflect.Method;
import java.util.ArrayList;
import java.util.Arrays;
import java.util.Comparator;
import java.util.List;
import java.util.Random;

/** Runs by lot of up to 512 calls: TurtleBet answers as the Model does, and never throws. */
public final class ModelTest {
    private static final int RUNS = 1500, CALLS = 512;
    private static final int[] ODD = {Integer.MIN_VALUE, Integer.MAX_VALUE, -1, 0, 1, -100000, 100000, TurtleBet.NONE};
    private static final String[] PIECES = {"p", "a", "c", "x", "w", "s", "t", "l", "0", "1", "7", "25", "9999", "12345", "q", "pp"};
    private static final String[] SIGNS = {"+", "-", "*", "/", "<", "=", ">", "&", "|"};

    private final Random lot;
    private final List<Method> calls = new ArrayList<>();
    private TurtleBet bet;
    private Model model;
    private final List<String> said = new ArrayList<>();

    private ModelTest(long seed) {
        lot = new Random(seed);
        for (Method m : TurtleBet.class.getDeclaredMethods()) {
            if (java.lang.reflect.Modifier.isPublic(m.getModifiers())) {
                calls.add(m);
            }
        }
        calls.sort(Comparator.comparing(Method::getName));
    }

    public static void main(String[] args) throws Exception {
        int runs = args.length > 0 ? Integer.parseInt(args[0]) : RUNS;
        for (int run = 0; run < runs; run++) {
            new ModelTest(run).run(run);
        }
        Due.end();
    }

    private void run(int run) throws Exception {
        bet = new TurtleBet();
        model = new Model();
        int many = 0;
        if (lot.nextInt(3) > 0) {
            many += call("seed", lot.nextInt());
            many += call("deal", 1 + lot.nextInt(8));
        }
        while (many < CALLS) {
            int told = lot.nextInt(40);
            int more = told == 0 ? toldDays() : told < 3 ? someText() : someCall();
            if (more < 0) {
                System.out.println("run " + run + ", its last calls: " + said.subList(Math.max(0, said.size() - 12), said.size()));
                return;
            }
            many += more;
        }
    }

    /** How many calls that was, or -1000 if an answer is not due. */
    private int call(String name, Object... values) throws Exception {
        Class<?>[] ints = new Class<?>[values.length];
        Arrays.fill(ints, int.class);
        Method asked = TurtleBet.class.getDeclaredMethod(name, ints);
        Method due = Model.class.getDeclaredMethod(name, ints);
        String what = name + Arrays.toString(values);
        said.add(what);
        int want = (int) due.invoke(model, values);
        int got;
        try {
            got = (int) asked.invoke(bet, values);
        } catch (InvocationTargetException e) {
            Due.isTrue(what + " threw " + e.getCause(), false);
            return -1000;
        }
        Due.due(what, got, want);
        return got == want ? 1 : -1000;
    }

    private int someCall() throws Exception {
        Method m = calls.get(lot.nextInt(calls.size()));
        Object[] values = new Object[m.getParameterCount()];
        for (int i = 0; i < values.length; i++) {
            values[i] = lot.nextInt(60) == 0 ? ODD[lot.nextInt(ODD.length)] : fitting(m.getName(), i);
        }
        return call(m.getName(), values);
    }

    /** A value that is mostly within bounds, now and then right beyond them. */
    private int fitting(String call, int place) {
        switch (call + place) {
            case "turtle0": case "as1": case "turns1": case "egg1": case "ask1": return around(0, 5);
            case "turtle1": return around(0, 20);
            case "told1": return around(0, 8);
            case "step1": return around(0, 9);
            case "set1": return around(1, 5);
            case "set2": return lot.nextInt(3) > 0 ? around(0, 1) : lot.nextBoolean() ? around(0, 20) : around(-9999, 9999);
            case "push1": return around(-99, 99);
            case "rule0": return around(0, 2);
            case "rule1": return lot.nextInt(3) > 0 ? around(0, 99) : around(1, 9999);
            case "deal0": return around(1, 8);
            case "seed0": return lot.nextInt();
            case "days0": return lot.nextInt(3) > 0 ? around(1, 20) : around(1, 300);
            case "wager2": return lot.nextBoolean() ? around(0, 50) : around(0, 9999);
            case "wagerTold0": case "inherit0": case "pays0": return around(0, 11);
            case "wagerTold1": return around(0, 2);
            case "behind1": return lot.nextBoolean() ? around(0, 20) : around(0, 300);
            case "behind2": return around(0, 10);
            case "toLaps0": return lot.nextBoolean() ? around(0, 9) : around(0, 99);
            case "colder1": case "stick1": return around(0, 60);
            case "paced2": return around(0, 1);
            case "trim0": return around(0, 96);
            case "textTold0": return around(0, 13);
            case "textTold1": return around(0, 1);
            case "why0": return around(0, 2);
            case "sheet1": return around(-1, 1);
            case "sheet2": return around(0, 24);
            case "mark1": return around(0, 10);
            case "mark2": return lot.nextInt(4) == 0 ? TurtleBet.NONE : lot.nextBoolean() ? around(0, 99) : around(-99999, 99999);
            case "copy1": case "copy3": case "copy4": return around(0, 8);
            case "item1": return around(0, 10);
            case "rest1": return around(-5, 5);
            case "lay1": return around(0, 3);
            case "lay2": return lot.nextInt(4) == 0 ? lot.nextInt() : around(0, 4);
            case "check0": return around(1, 30);
            case "count0": return around(0, 11);
            case "pour0": case "reads0": case "sheet0": case "mark0": case "paced0": case "copy0": case "copy2": return around(0, 3);
            case "lay0": case "ask0": case "item0": case "rest0": return around(0, 4);
            default: return around(0, 7);
        }
    }

    private int around(int least, int most) {
        return lot.nextInt(25) == 0 ? (lot.nextBoolean() ? least - 1 : most + 1) : least + lot.nextInt(most - least + 1);
    }

    private int someText() throws Exception {
        int many = call("trim", 0);
        String key = new String[] {"pace", "pay", "fine", "pac"}[Math.min(lot.nextInt(20) / 6, 3)];
        StringBuilder text = new StringBuilder(key).append(lot.nextInt(15) == 0 ? "" : " ").append(expression(key, 4));
        if (lot.nextInt(4) == 0) {
            int at = lot.nextInt(text.length() + 1);
            text.insert(at, "( )!+9x|\tZ<".charAt(lot.nextInt(11)));
        }
        if (lot.nextInt(6) == 0) {
            text.deleteCharAt(lot.nextInt(text.length()));
        }
        text.setLength(Math.min(text.length(), 96));
        int length = text.length();
        while (text.length() % 12 != 0) {
            text.append(' ');
        }
        for (int i = 0; i < text.length() && many >= 0; i += 12) {
            many += call("feed", four(text, i), four(text, i + 4), four(text, i + 8));
        }
        return many < 0 ? many : many + call("trim", length) + call("text");
    }

    private static int four(CharSequence s, int at) {
        return s.charAt(at) << 24 | s.charAt(at + 1) << 16 | s.charAt(at + 2) << 8 | s.charAt(at + 3);
    }

    private String expression(String key, int deep) {
        int sort = lot.nextInt(10);
        if (deep == 0 || sort < 3) {
            String names = key.equals("pace") ? "pacx" : key.equals("pay") ? "wst" : "lp";
            return lot.nextInt(20) == 0 ? PIECES[lot.nextInt(PIECES.length)]
                    : lot.nextBoolean() ? String.valueOf(names.charAt(lot.nextInt(names.length())))
                    : String.valueOf(lot.nextInt(lot.nextBoolean() ? 10 : 10000));
        }
        String blank = lot.nextInt(3) == 0 ? " " : "";
        if (sort == 3) {
            return "!" + blank + expression(key, deep - 1);
        }
        if (sort < 6) {
            return "(" + blank + expression(key, deep - 1) + ")";
        }
        return expression(key, deep - 1) + blank + SIGNS[lot.nextInt(SIGNS.length)] + blank + expression(key, deep - 1);
    }

    /** Tells the days by the image, now and then with a number that is wrong, missing or too many. */
    private int toldDays() throws Exception {
        if (model.image == null) {
            return call("keep");
        }
        int n = 1 + lot.nextInt(30);
        List<Integer> due = model.daysTold(n);
        if (lot.nextInt(3) == 0 && !due.isEmpty()) {
            due.set(lot.nextInt(due.size()), lot.nextInt(9) - 1);
        }
        if (lot.nextInt(5) == 0 && !due.isEmpty()) {
            due.remove(due.size() - 1);
        }
        if (lot.nextInt(5) == 0) {
            due.add(0);
        }
        int many = call("check", 0);
        for (int i = 0; i < due.size() && many >= 0; i++) {
            many += call("tell", due.get(i));
        }
        return many < 0 ? many : many + call("check", n);
    }
}
