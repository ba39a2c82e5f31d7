import java.lang.reflect.InvocationTargetException;
import java.lang.reflect.Method;
import java.util.ArrayList;
import java.util.Comparator;
import java.util.List;
import java.util.Random;

/** Runs of drawn calls, each asked of the class and of PlainModel; the draws are by a fixed seed. */
public final class ModelTest {
    private static final int RUNS = 5000, CALLS = 120;
    private static final String[] KINDS = {"plain", "exile", "carrier", "child", "stout"};

    private final Random random;
    private SeesawPairs x;
    private PlainModel model;
    private final StringBuilder story = new StringBuilder();

    private ModelTest(long seed) {
        random = new Random(seed);
    }

    public static void main(String[] args) throws Exception {
        int runs = args.length > 0 ? Integer.parseInt(args[0]) : RUNS;
        long first = args.length > 1 ? Long.parseLong(args[1]) : 0;
        List<Method> methods = new ArrayList<>();
        for (Method m : SeesawPairs.class.getDeclaredMethods()) if (java.lang.reflect.Modifier.isPublic(m.getModifiers())) methods.add(m);
        methods.sort(Comparator.comparing(Method::getName));
        for (long seed = first; seed < first + runs; seed++) {
            if (!new ModelTest(seed).run(methods)) System.exit(1);
        }
        System.out.println(runs + " runs are as in the model");
    }

    private boolean run(List<Method> methods) throws Exception {
        x = new SeesawPairs();
        model = new PlainModel();
        int around = 1 + random.nextInt(90);
        boolean ok = tellText(around, 0);
        for (int i = 0; ok && i < CALLS; i++) {
            int turn = random.nextInt(60);
            if (turn == 0) ok = tellText(around, random.nextInt(3));
            else if (turn < 3) ok = layPlan();
            else ok = call(methods.get(random.nextInt(methods.size())));
        }
        if (!ok) System.out.println(story);
        return ok;
    }

    private int pick(int n) {
        int r = random.nextInt(40);
        if (r == 0) return -1;
        if (r == 1) return n;
        if (r == 2) return random.nextInt();
        return random.nextInt(Math.max(1, n));
    }

    private int what(int low, int people) {
        return random.nextInt(3) == 0 ? pick(low) : 10 + pick(people);
    }

    private boolean call(Method m) throws Exception {
        int people = model.rule(2), bridges = model.rule(1), banks = model.rule(0);
        int b = pick(bridges), p = pick(people), q = pick(people);
        switch (m.getName()) {
            // a text of nothing would leave nothing to ask
            case "text": return random.nextInt(30) != 0 || same(m);
            case "feed": return same(m, random.nextLong());
            case "end": return same(m, pick(model.count(3) + 1));
            case "rule": return same(m, pick(5));
            case "bridge": return same(m, b, pick(3));
            case "one": return same(m, p, pick(4));
            case "stones": return same(m, pick(banks));
            case "heap": return same(m, pick(banks), pick(21));
            case "play": return same(m, b, pick(21));
            case "weigh": return same(m, p, nearWeight());
            case "send": return random.nextInt(3) != 0 || same(m, p, pick(banks), pick(banks));
            case "feast": return same(m, pick(banks), pick(21) - 10);
            case "can": case "cross": return same(m, crossing());
            case "balance": return same(m, b, p, q, pick(3));
            case "fellows": case "worth": return same(m, b, p);
            case "errands": return same(m, b, what(1, people));
            case "heaved": return same(m, b, what(2, people));
            case "hire": return same(m, b, pick(2), pick(2));
            case "plan": return same(m, what(1, 5));
            case "reach": case "late": return same(m, p);
            case "tell": return same(m, b, p, q);
            case "forget": return same(m, pick(model.count(1) + 1));
            case "fits": return same(m, pick(2), pick(5), what(1, 3));
            case "season": return same(m, random.nextInt(), 1 + pick(100), pick(2));
            case "keep": case "back": return same(m, pick(2));
            case "sheet": return same(m, pick(4), pick(3), pick(41));
            case "lay": return same(m, pick(4), pick(12), random.nextInt(9) == 0 ? random.nextInt() : pick(6));
            case "read": return same(m, pick(4), pick(3), pick(12), pick(14));
            case "count": return same(m, pick(6));
            default: return same(m);
        }
    }

    private int nearWeight() {
        return model.rule(2) > 0 ? model.one(random.nextInt(model.rule(2)), 1) + random.nextInt(7) - 3 : pick(100);
    }

    /** Mostly one that can be. */
    private Object[] crossing() {
        int people = model.rule(2), bridges = model.rule(1);
        int i = random.nextInt(3) == 0 ? pick(4) : 0, j = random.nextInt(3) == 0 ? pick(4) : 0;
        for (int turn = 0; turn < 30 && people > 1 && bridges > 0; turn++) {
            int b = random.nextInt(bridges), p = random.nextInt(people), q = random.nextInt(people);
            if (model.can(b, p, q, i, j) == 1) return new Object[] {b, p, q, i, j};
        }
        return new Object[] {pick(bridges), pick(people), pick(people), i, j};
    }

    /** The steps of a plan come on a sheet, and are read. */
    private boolean layPlan() throws Exception {
        int k = random.nextInt(4), lane = random.nextInt(3);
        if (!same(method("sheet", int.class, int.class, int.class), k, lane, 40)) return false;
        int n = Math.min(13, Math.max(0, model.plan(0)));
        for (int i = 0; i < n; i++) {
            int step = model.plan(10 + i);
            int[] cells = {step / 100, step / 10 % 10, step % 10};
            for (int c = 0; c < 3; c++) {
                if (!same(method("lay", int.class, int.class, int.class), k, 3 * i + c, cells[c])) return false;
            }
        }
        Method read = method("read", int.class, int.class, int.class, int.class);
        return same(read, k, lane, 0, Math.min(13, n + random.nextInt(2)));
    }

    private static Method method(String name, Class<?>... types) throws Exception {
        return SeesawPairs.class.getDeclaredMethod(name, types);
    }

    private boolean same(Method m, Object... args) throws Exception {
        story.append(m.getName()).append(java.util.Arrays.toString(args));
        Object due = PlainModel.class.getDeclaredMethod(m.getName(), m.getParameterTypes()).invoke(model, args);
        Object got;
        try {
            got = m.invoke(x, args);
        } catch (InvocationTargetException e) {
            got = e.getCause();
        }
        story.append(" -> ").append(got).append('\n');
        if (due.equals(got)) return true;
        story.append("due is ").append(due);
        return false;
    }

    private boolean tellText(int around, int spoils) throws Exception {
        StringBuilder text = new StringBuilder(drawText(around));
        for (int s = 0; s < spoils && text.length() > 0; s++) spoil(text);
        if (text.length() > 320) text.setLength(320);
        if (!same(method("end", int.class), 0)) return false;
        int n = text.length();
        while (text.length() % 8 != 0) text.append(' ');
        for (int i = 0; i < text.length(); i += 8) {
            long v = 0;
            for (int j = i; j < i + 8; j++) v = v << 8 | text.charAt(j) & 255;
            if (!same(method("feed", long.class), v)) return false;
        }
        story.append(text).append('\n');
        return same(method("end", int.class), n) && same(method("text")) && same(method("fault"));
    }

    private void spoil(StringBuilder text) {
        String[] signs = {" ", ";", "0", "7", "21", "99", "a", "one ", "meet ", "heap 1 2;", "banks 2;", "stone 3;", "bridge 1 0 3;", "$", "x"};
        String sign = signs[random.nextInt(signs.length)];
        int at = random.nextInt(text.length());
        if (random.nextInt(3) == 0) text.deleteCharAt(at);
        else if (random.nextBoolean()) text.insert(at, sign);
        else text.setCharAt(at, random.nextInt(5) == 0 ? (char) random.nextInt(256) : sign.charAt(0));
    }

    private String drawText(int around) {
        int banks = random.nextBoolean() ? 2 : 2 + random.nextInt(3), bridges = random.nextInt(8) == 0 ? 0 : 1 + random.nextInt(4);
        int people = random.nextInt(8) == 0 ? random.nextInt(3) : 3 + random.nextInt(4);
        int most = random.nextInt(3) == 0 ? 2 : 20;
        List<String> lines = new ArrayList<>();
        if (banks != 2 || random.nextBoolean()) lines.add("banks " + banks + ";");
        if (random.nextBoolean()) lines.add("stone " + (1 + random.nextInt(9)) + ";");
        for (int bank = 0; bank < banks; bank++) if (random.nextBoolean()) lines.add("heap " + bank + " " + (1 + random.nextInt(20)) + ";");
        for (int b = 0; b < bridges; b++) {
            int first = random.nextInt(banks);
            int second = (first + 1 + random.nextInt(banks - 1)) % banks;
            lines.add("bridge " + first + " " + second + " " + random.nextInt(most + 1) + ";");
        }
        List<Integer> stands = new ArrayList<>();
        for (int p = 0; p < people; p++) stands.add(random.nextInt(banks));
        // each bank must keep its number of people, or there is no plan
        List<Integer> goals = new ArrayList<>(stands);
        java.util.Collections.shuffle(goals, random);
        int spread = random.nextBoolean() ? 4 : 21;
        boolean plain = random.nextInt(3) == 0;
        for (int p = 0; p < people; p++) {
            int weight = Math.min(99, Math.max(1, around + random.nextInt(spread) - spread / 2));
            String kind = KINDS[plain ? 0 : random.nextInt(5)];
            int goal = random.nextInt(9) == 0 ? random.nextInt(banks) : goals.get(p);
            lines.add("one " + kind + " " + weight + " " + stands.get(p) + " " + goal + ";");
        }
        int meets = bridges > 0 && people > 1 ? random.nextInt(9) : 0;
        for (int i = 0; i < meets; i++) {
            int p = random.nextInt(people);
            lines.add("meet " + random.nextInt(bridges) + " " + p + " " + (p + 1 + random.nextInt(people - 1)) % people + ";");
        }
        StringBuilder text = new StringBuilder();
        for (String line : lines) if (text.length() + line.length() <= 320) text.append(line);
        return text.toString();
    }
}
