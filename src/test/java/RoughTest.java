import java.lang.reflect.InvocationTargetException;
import java.lang.reflect.Method;
import java.util.ArrayList;
import java.util.List;
import java.util.NoSuchElementException;

/** Every call with wild arguments, on a new object and on a full one: nothing is thrown but what party() promises. */
public final class RoughTest {
    private static final int[] WILD = {Integer.MIN_VALUE, -2, -1, 0, 1, 2, 3, 8, 9, 64, 1000, Integer.MAX_VALUE};

    public static void main(String[] args) throws Exception {
        for (Method m : ThreeSittings.class.getMethods()) {
            if (m.getDeclaringClass() == ThreeSittings.class) {
                for (Object[] arguments : rows(m.getParameterTypes())) {
                    call(m, new ThreeSittings(), arguments);
                }
                ThreeSittings full = full();
                for (Object[] arguments : rows(m.getParameterTypes())) {
                    call(m, full, arguments);
                }
            }
        }
        Kit.end("RoughTest");
    }

    private static ThreeSittings full() {
        StringBuilder text = new StringBuilder("seats 20;over 99;seed 99999;sitting 0 0;sitting 1 99;sitting 2 9;");
        for (char c = 'a'; c <= 'h'; c++) {
            text.append("party ").append(c).append(" 9 9 8 9 999 99 ").append(c - 'a').append(";");
        }
        text.append("law like date*9999*9999*9999*9999/size;law stay coffee/late;law miss absent or price;");
        ThreeSittings x = Kit.told(text.toString());
        for (int p = 0; p < 8; p++) {
            x.give(p, p % 3);
        }
        for (int k = 0; k < 24; k++) {
            x.note(k % 3, k, true);
        }
        x.days(5);
        x.keep();
        for (int k = 0; k < 30; k++) {
            x.sign(k % 3, k % 4);
        }
        return x;
    }

    private static List<Object[]> rows(Class<?>[] types) {
        List<Object[]> rows = new ArrayList<>();
        rows.add(new Object[types.length]);
        for (int k = 0; k < types.length; k++) {
            List<Object[]> more = new ArrayList<>();
            for (Object[] row : rows) {
                for (int value : types.length > 4 ? new int[] {Integer.MIN_VALUE, 0, -1} : WILD) {
                    Object[] copy = row.clone();
                    copy[k] = types[k] == boolean.class ? (Object) (value > 0) : value;
                    more.add(copy);
                }
            }
            rows = more;
        }
        return rows;
    }

    private static void call(Method m, ThreeSittings x, Object[] arguments) throws Exception {
        try {
            m.invoke(x, arguments);
            Kit.due(m.getName(), 0, 0);
        } catch (InvocationTargetException e) {
            Class<?> thrown = e.getCause().getClass();
            boolean promised = m.getName().equals("party")
                    && (thrown == IndexOutOfBoundsException.class || thrown == NoSuchElementException.class);
            Kit.due(m.getName() + java.util.Arrays.toString(arguments) + " threw " + e.getCause(), promised, true);
        }
    }
}
