import java.lang.reflect.InvocationTargetException;
import java.lang.reflect.Method;
import java.util.ArrayList;
import java.util.Arrays;
import java.util.Comparator;
import java.util.List;
import java.util.Random;

/** All promises: random texts and random calls, ThreeSittings against Model. */
public final class ModelTest {
    private static final int RUNS = 350;
    // With those that tell the first text nearly all of the 512 calls of which the document speaks.
    private static final int CALLS = 470;

    private final Random random;
    private final ThreeSittings x = new ThreeSittings();
    private final Model model = new Model();
    private final List<String> calls = new ArrayList<>();

    private ModelTest(long seed) {
        random = new Random(seed);
    }

    public static void main(String[] args) throws Exception {
        List<Method> methods = new ArrayList<>(Arrays.asList(ThreeSittings.class.getDeclaredMethods()));
        methods.removeIf(m -> !java.lang.reflect.Modifier.isPublic(m.getModifiers()));
        methods.sort(Comparator.comparing(Method::getName));
        Kit.due("public methods", methods.size(), 40);
        for (int seed = 1; seed <= RUNS; seed++) {
            if (!new ModelTest(seed).run(methods)) {
                System.exit(1);
            }
        }
        Kit.end("ModelTest");
    }

    private boolean run(List<Method> methods) throws Exception {
        boolean same = tellNew(methods);
        for (int k = 0; k < CALLS && same; k++) {
            int dice = random.nextInt(200);
            if (dice == 0) {
                same = tellNew(methods);
            } else if (dice < 40) {
                same = call(named(methods, "give"), random.nextInt(9), random.nextInt(5) - 1);
            } else if (dice < 60) {
                same = call(named(methods, "days"), random.nextInt(3));
            } else {
                Method m = methods.get(random.nextInt(methods.size()));
                if (!m.getName().equals("feed") && !m.getName().equals("text") || dice > 197) {
                    same = callRandomly(m);
                }
            }
        }
        return same;
    }

    private static Method named(List<Method> methods, String name) {
        return methods.stream().filter(m -> m.getName().equals(name)).findFirst().get();
    }

    private boolean tellNew(List<Method> methods) throws Exception {
        String text = text();
        if (random.nextInt(3) == 0) {
            text = spoilt(text);
        }
        byte[] bytes = Arrays.copyOf(Kit.bytes(text), (text.length() + 19) / 20 * 20);
        boolean same = true;
        for (int at = 0; at < bytes.length && same; at += 20) {
            same = call(named(methods, "feed"), Kit.four(bytes, at), Kit.four(bytes, at + 4), Kit.four(bytes, at + 8),
                    Kit.four(bytes, at + 12), Kit.four(bytes, at + 16));
        }
        calls.add("-- " + text);
        same = same && call(named(methods, "text"), text.length());
        return same && call(named(methods, "fault"), 0) && call(named(methods, "fault"), 1);
    }

    private boolean callRandomly(Method m) throws Exception {
        Object[] arguments = new Object[m.getParameterCount()];
        for (int k = 0; k < arguments.length; k++) {
            arguments[k] = m.getParameterTypes()[k] == boolean.class ? (Object) random.nextBoolean() : number(m, k);
        }
        return call(m, arguments);
    }

    private int number(Method m, int k) {
        if (random.nextInt(60) == 0) {
            int[] wild = {Integer.MIN_VALUE, Integer.MAX_VALUE, -1, -2, 20, 21, 99, 100, 999, 1000, 9999, 10000};
            return wild[random.nextInt(wild.length)];
        }
        switch (m.getName()) {
            case "note":
                return k == 0 ? random.nextInt(4) - random.nextInt(2) : random.nextInt(60);
            case "law":
                return k == 0 ? random.nextInt(4) : k == 3 ? random.nextInt(40) : random.nextInt(8);
            case "count":
                return random.nextInt(16);
            case "party":
                return random.nextInt(k == 0 ? 8 : 10);
            case "chance":
                return k == 0 ? random.nextInt() & Integer.MAX_VALUE : k == 1 ? random.nextInt(22) : random.nextInt(60);
            case "tried":
                return k == 0 ? random.nextInt(6) : k == 1 ? random.nextInt(2) * random.nextInt(8) : random.nextInt(22);
            case "known":
            case "out":
                return random.nextInt(14) - 1;
            case "price":
                return random.nextInt(k == 0 ? 3 : 12);
            case "rest":
                return random.nextInt(k == 2 ? 4 : 6);
            case "named":
                return Kit.letters(name(random.nextInt(9)));
            case "text":
                return random.nextInt(20) - 1;
            default:
                return random.nextInt(random.nextBoolean() ? 9 : 3);
        }
    }

    private boolean call(Method m, Object... arguments) throws Exception {
        Method other = Model.class.getDeclaredMethod(m.getName(), m.getParameterTypes());
        String got = answer(m, x, arguments);
        String want = answer(other, model, arguments);
        calls.add(m.getName() + Arrays.toString(arguments) + " = " + got);
        if (got.equals(want)) {
            Kit.due(m.getName(), 0, 0);
            return true;
        }
        calls.forEach(System.out::println);
        System.out.println("ThreeSittings answered " + got + ", Model " + want);
        return false;
    }

    private static String answer(Method m, Object of, Object[] arguments) throws Exception {
        try {
            return String.valueOf(m.invoke(of, arguments));
        } catch (InvocationTargetException e) {
            return "throws." + e.getCause().getClass().getSimpleName();
        }
    }

    // ---- texts

    private static String name(int k) {
        return new String[] {"a", "b", "c", "al", "bo", "cy", "zz", "abcdef", "q"}[k];
    }

    private String text() {
        List<String> lines = new ArrayList<>();
        int parties = random.nextInt(9);
        for (int p = 0; p < parties; p++) {
            lines.add("party " + name(p) + " " + (1 + random.nextInt(9)) + " " + random.nextInt(10) + " "
                    + random.nextInt(10) + " " + random.nextInt(10) + " " + (random.nextBoolean() ? 999
                    : random.nextInt(400)) + " " + (random.nextBoolean() ? 0 : random.nextInt(100)) + " "
                    + (random.nextBoolean() ? 0 : random.nextInt(101)));
        }
        int minute = random.nextInt(100);
        for (int s = random.nextInt(4); s > 0; s--) {
            lines.add("sitting " + minute + " " + random.nextInt(random.nextBoolean() ? 5 : 100));
            minute += 1 + random.nextInt(random.nextBoolean() ? 150 : 40);
        }
        setting(lines, "seats", 1, random.nextBoolean() ? 20 : 60);
        setting(lines, "meal", 1, 99);
        setting(lines, "lay", 0, 99);
        setting(lines, "hands", 1, 9);
        setting(lines, "over", 0, 30);
        setting(lines, "seed", 0, 99999);
        for (String rule : new String[] {"like", "stay", "miss"}) {
            if (random.nextInt(2) == 0) {
                lines.add("law " + rule + " " + part(random.nextInt(4)));
            }
        }
        StringBuilder all = new StringBuilder();
        for (String line : lines) {
            all.append(line).append(random.nextInt(9) == 0 ? " ;\n" : ";");
        }
        return all.length() > 700 ? "" : all.toString();
    }

    private void setting(List<String> lines, String word, int least, int most) {
        if (random.nextInt(3) > 0) {
            lines.add(random.nextInt(lines.size() + 1), word + " " + (least + random.nextInt(most - least + 1)));
        }
    }

    private String part(int depth) {
        if (depth == 0) {
            String[] leaves = {"size", "wish", "late", "price", "coffee", "absent", "date", "0", "1", "2", "7", "30",
                "50", "9999"};
            return leaves[random.nextInt(leaves.length)];
        }
        String[] signs = {"+", "-", "*", "/", "<", "<=", "=", "<>", ">=", ">", " and ", " or "};
        String both = part(depth - 1) + signs[random.nextInt(signs.length)] + part(depth - 1);
        int dice = random.nextInt(6);
        return dice == 0 ? "not " + both : dice < 3 ? "(" + both + ")" : both;
    }

    private String spoilt(String text) {
        StringBuilder all = new StringBuilder(text);
        String[] bits = {";", "(", ")", "not ", "1", "0", "x", "party ", "sitting 5 5;", "seats 5;", " ", "<", "=", ">",
            "law like 1;", "9999", "abcdefg", "\n", "#", "+", "/", "and ", "(((((((((", "" + (char) 233};
        for (int k = random.nextInt(3); k >= 0; k--) {
            int at = random.nextInt(all.length() + 1);
            if (random.nextBoolean() && at < all.length()) {
                all.deleteCharAt(at);
            } else {
                all.insert(at, bits[random.nextInt(bits.length)]);
            }
        }
        return all.length() > 700 ? "" : all.toString();
    }
}
