import java.lang.reflect.InvocationTargetException;
import java.lang.reflect.Method;
import java.lang.reflect.Modifier;
import java.util.ArrayList;
import java.util.Arrays;
import java.util.Comparator;
import java.util.List;
import java.util.Random;

/** Random runs on PunchCards and on PlainModel side by side: every answer and every exception must be the same. */
public final class RandomRuns {
    private static final String[] UP_VALUES = {"hole", "beside", "ahead", "pick", "thread", "wear"};
    private static final String[] HARM_VALUES = {"holes", "alike", "first", "second"};
    private static int wrong = 0;
    private static long calls = 0;
    private static long thrown = 0;
    private static int told = 0;
    private static int[] faults = new int[6];

    private final Random random;
    private final List<Method[]> methods = new ArrayList<>();
    private PunchCards cards = new PunchCards();
    private PlainModel model = new PlainModel();
    private final List<String> log = new ArrayList<>();

    private RandomRuns(long seed) throws NoSuchMethodException {
        random = new Random(seed);
        List<Method> face = new ArrayList<>();
        for (Method m : PunchCards.class.getDeclaredMethods()) {
            if (Modifier.isPublic(m.getModifiers())) face.add(m);
        }
        face.sort(Comparator.comparing(Method::getName));
        for (Method m : face) {
            Method other = PlainModel.class.getDeclaredMethod(m.getName(), m.getParameterTypes());
            other.setAccessible(true);
            methods.add(new Method[] {m, other});
        }
    }

    private static Object answer(Method m, Object target, Object[] args) throws IllegalAccessException {
        try {
            return m.invoke(target, args);
        } catch (InvocationTargetException e) {
            return "throws." + e.getCause().getClass().getName();
        }
    }

    private Object both(String name, Object... args) throws IllegalAccessException {
        for (Method[] pair : methods) {
            if (pair[0].getName().equals(name)) {
                Object got = answer(pair[0], cards, args);
                Object due = answer(pair[1], model, args);
                calls++;
                if (got instanceof String) thrown++;
                String row = name + Arrays.toString(args) + " answered " + got;
                log.add(row);
                if (got == null ? due != null : !got.equals(due)) {
                    wrong++;
                    if (wrong < 4) {
                        System.out.println("random run: " + row + ", due is " + due + "; behind:");
                        for (String r : log) System.out.println("  " + r);
                    }
                }
                return got;
            }
        }
        throw new IllegalStateException(name);
    }

    // ---- texts ----

    private String expr(String[] values, int within) {
        StringBuilder s = new StringBuilder(conjunction(values, within));
        while (random.nextInt(5) == 0) s.append(" or ").append(conjunction(values, within));
        return s.toString();
    }

    private String conjunction(String[] values, int within) {
        StringBuilder s = new StringBuilder(negation(values, within));
        while (random.nextInt(5) == 0) s.append(" and ").append(negation(values, within));
        return s.toString();
    }

    private String negation(String[] values, int within) {
        StringBuilder s = new StringBuilder();
        for (int i = 0; i < 6 && random.nextInt(5) == 0; i++) s.append("not ");
        s.append(sum(values, within));
        if (random.nextInt(3) == 0) s.append(random.nextBoolean() ? "<" : "=").append(sum(values, within));
        return s.toString();
    }

    private String sum(String[] values, int within) {
        StringBuilder s = new StringBuilder(product(values, within));
        while (random.nextInt(4) == 0) s.append(random.nextBoolean() ? "+" : "-").append(product(values, within));
        return s.toString();
    }

    private String product(String[] values, int within) {
        StringBuilder s = new StringBuilder(part(values, within));
        while (random.nextInt(5) == 0) s.append(random.nextBoolean() ? "*" : "/").append(part(values, within));
        return s.toString();
    }

    private String part(String[] values, int within) {
        int kind = random.nextInt(9);
        if (kind < 2) return "" + random.nextInt(random.nextInt(6) == 0 ? 10000 : 12);
        if (kind < 6 || within == 5) return values[random.nextInt(values.length)];
        return "(" + expr(values, within + 1) + ")";
    }

    private String shortExpr(String[] values) {
        for (int i = 0; i < 50; i++) {
            String e = expr(values, 0);
            if (e.length() < 150) return e;
        }
        return values[0];
    }

    private String text() {
        List<String> lines = new ArrayList<>();
        int threads = random.nextInt(4) == 0 ? 8 : 2 + random.nextInt(random.nextInt(6) == 0 ? 11 : 6);
        int many = 1 + random.nextInt(random.nextInt(5) == 0 ? 10 : 6);
        int holes = random.nextInt(3) == 0 ? 4096 : 1 << threads;
        for (int i = 0; i < many; i++) {
            int wear = random.nextInt(3) == 0 ? 9 : random.nextInt(10);
            lines.add("card " + random.nextInt(holes) + " " + random.nextInt(random.nextBoolean() ? 2 : 10) + " " + wear + ";");
        }
        if (random.nextInt(12) != 0) {
            StringBuilder lace = new StringBuilder("lace");
            int picks = 1 + random.nextInt(random.nextInt(8) == 0 ? 12 : 7);
            for (int i = 0; i < picks; i++) lace.append(' ').append(random.nextInt(many));
            lines.add(lace.append(';').toString());
        }
        int figures = random.nextInt(6);
        for (int i = 0; i < figures; i++) {
            int width = 1 + random.nextInt(4);
            StringBuilder f = new StringBuilder("figure " + random.nextInt(10) + " " + width);
            int rows = 1 + random.nextInt(3);
            for (int r = 0; r < rows; r++) f.append(' ').append(random.nextInt(1 << width));
            lines.add(f.append(';').toString());
        }
        if (threads != 8 || random.nextBoolean()) lines.add(random.nextInt(lines.size() + 1), "threads " + threads + ";");
        if (random.nextInt(3) != 0) lines.add(random.nextInt(lines.size() + 1), "up " + shortExpr(UP_VALUES) + ";");
        if (random.nextInt(3) != 0) lines.add(random.nextInt(lines.size() + 1), "harm " + shortExpr(HARM_VALUES) + ";");
        return String.join(random.nextBoolean() ? "" : "\n", lines);
    }

    private static final String[] SCRAPS = {";", "(", ")", "+", "-", "*", "/", "<", "=", " ", "\n", "\t", "A", "\u00e9", "0", "9",
        "12345", "00012", "4095", "4096", " not ", " and ", " or ", " hole ", " holes ", " first ", " wear ", "threads 5;", "card 1 1 1;",
        "lace 0;", "figure 1 1 1;", "up 1;", "harm 1;", " not not not not not not not 1", "((((((1))))))", "(((((1)))))", "((((((", "zebra"};

    private String spoilt(String text) {
        StringBuilder s = new StringBuilder(text);
        int times = 1 + random.nextInt(2);
        for (int i = 0; i < times; i++) {
            int at = random.nextInt(s.length() + 1);
            switch (random.nextInt(4)) {
                case 0:
                    s.insert(at, SCRAPS[random.nextInt(SCRAPS.length)]);
                    break;
                case 1:
                    if (at < s.length()) s.deleteCharAt(at);
                    break;
                case 2:
                    s.setLength(at);
                    break;
                default:
                    s.replace(at, Math.min(s.length(), at + 3), SCRAPS[random.nextInt(SCRAPS.length)]);
                    break;
            }
        }
        return s.toString();
    }

    private void tell(String text) throws IllegalAccessException {
        StringBuilder padded = new StringBuilder(text);
        while (padded.length() % 20 != 0) padded.append((char) (random.nextInt(3) == 0 ? random.nextInt(256) : 32));
        for (int i = 0; i + 20 <= padded.length(); i += 20) {
            Object[] five = new Object[5];
            for (int k = 0; k < 5; k++) {
                int n = 0;
                for (int b = 0; b < 4; b++) n = n << 8 | padded.charAt(i + 4 * k + b) & 255;
                five[k] = n;
            }
            both("feed", five);
        }
        Object kind = both("chapel", text.length());
        both("fault");
        if (kind instanceof Integer) {
            int k = (Integer) kind;
            if (k == 0) told++;
            if (k >= 0 && k < 6) faults[k]++;
        }
    }

    // ---- calls ----

    private int near(int low, int high) {
        int r = random.nextInt(24);
        if (r == 0) return low - 1;
        if (r == 1) return high + 1;
        if (r == 2) return random.nextInt();
        return low + random.nextInt(Math.max(1, high - low + 1));
    }

    private Object[] argsFor(String name) {
        int cardsMax = Math.max(0, model.count(1) - 1);
        int picksMax = Math.max(0, model.count(2) - 1);
        int threadsMax = model.count(0) - 1;
        int figuresMax = Math.max(0, model.count(3) - 1);
        int c = near(0, cardsMax);
        int d = near(0, cardsMax);
        int f = near(0, figuresMax);
        int p = near(0, picksMax);
        switch (name) {
            case "feed": return new Object[] {random.nextInt(), random.nextInt(), 0, 1, 2};
            case "chapel": return new Object[] {near(-1, 40)};
            case "count": return new Object[] {near(0, 15)};
            case "card": return new Object[] {c, near(0, 4)};
            case "lace":
            case "leftOut": return new Object[] {p};
            case "figure": return new Object[] {f, near(0, 5)};
            case "snarl":
            case "unlike": return new Object[] {c, d};
            case "sundays": return new Object[] {random.nextInt(3) == 0 ? near(1, 20) : 1 + random.nextInt(3)};
            case "punch": return new Object[] {c, near(0, (2 << threadsMax) - 1)};
            case "turn":
            case "cut":
            case "worn":
            case "same":
            case "family": return new Object[] {c};
            case "change": return new Object[] {p, near(0, picksMax)};
            case "then": return new Object[] {p, near(0, 30)};
            case "granted": return new Object[] {near(0, 30)};
            case "cutting": return new Object[] {near(1, 30)};
            case "floats": return new Object[] {near(-1, threadsMax)};
            case "stands": return new Object[] {f, near(0, 1)};
            case "order": return new Object[] {near(-1, picksMax)};
            case "punching": return new Object[] {c, f, near(0, 1)};
            case "see": return new Object[] {p, near(0, threadsMax), random.nextBoolean() ? near(0, 4) : near(0, 20), random.nextBoolean()};
            case "backwards": return new Object[] {near(0, 2)};
            case "punched": return new Object[] {c, near(0, 1)};
            case "next":
            case "mirrored": return new Object[] {near(0, 1)};
            case "toCut": return new Object[] {near(1, 30), near(0, 9), near(0, 50), near(0, 1)};
            case "coats": return new Object[] {near(-1, cardsMax)};
            case "game": return new Object[] {c, d, near(0, 1)};
            case "drawn": return new Object[] {random.nextInt(), near(0, 30), near(0, 2)};
            case "gap": return new Object[] {p, near(0, 1)};
            case "turning": return new Object[] {f};
            default: return new Object[0];
        }
    }

    private void everything() throws IllegalAccessException {
        for (int i = 0; i < 16; i++) both("count", i);
        for (int c = 0; c < model.count(1); c++) for (int w = 0; w < 5; w++) both("card", c, w);
        for (int p = 0; p < model.count(2); p++) both("lace", p);
    }

    private void run() throws IllegalAccessException {
        tell(random.nextInt(5) == 0 ? spoilt(text()) : text());
        int many = 20 + random.nextInt(60);
        for (int i = 0; i < many; i++) {
            String name = methods.get(random.nextInt(methods.size()))[0].getName();
            // A text told by chance is nearly always a fault, and one more feed may fill the tape: both seldom.
            if ((name.equals("chapel") || name.equals("feed") || name.equals("forget")) && random.nextInt(4) != 0) name = "see";
            if (name.equals("order") && model.count(2) == 9 && random.nextInt(8) != 0) name = "count";
            both(name, argsFor(name));
        }
        everything();
        if (random.nextInt(3) == 0) {
            while (both("undo").equals(NONE_LEFT) == false) { }
            everything();
        }
    }

    private static final Integer NONE_LEFT = -1;

    private void texts() throws IllegalAccessException {
        for (int i = 0; i < 8; i++) tell(spoilt(text()));
        everything();
    }

    public static void main(String[] args) throws Exception {
        int runs = args.length > 0 ? Integer.parseInt(args[0]) : 1500;
        for (int i = 0; i < runs && wrong == 0; i++) {
            new RandomRuns(i).run();
            new RandomRuns(1000003L * i + 7).texts();
        }
        System.out.println("random runs: " + calls + " calls, " + thrown + " of them thrown, " + told + " chapels told, faults "
            + Arrays.toString(faults) + ", " + wrong + " wrong");
        System.exit(wrong == 0 ? 0 : 1);
    }
}
