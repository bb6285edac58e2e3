import java.lang.reflect.InvocationTargetException;
import java.lang.reflect.Method;
import java.util.ArrayList;
import java.util.List;
import java.util.NoSuchElementException;
import java.util.Random;

/** Calls with all sorts of numbers in all sorts of states: nothing may be thrown but what the face tells of. */
public final class RoughCallsTest {
    private static final int[] EDGES = {Integer.MIN_VALUE, Integer.MIN_VALUE + 1, -10000, -9999, -300, -2, -1, 0, 1, 2,
        3, 4, 5, 6, 7, 8, 9, 10, 11, 20, 21, 28, 31, 79, 80, 81, 99, 100, 2000, 2027, 3000, 9998, 9999, 10000, 65536,
        Integer.MAX_VALUE - 1, Integer.MAX_VALUE};
    private static final String SIGNS = "  aomtuewdthfrisnjanfebmy0123456789ogrindf~\u00ff";
    private static final String[] TEXTS = {"fri or tue or wed", "first mon of in 2 month", "last week to next week",
        "late 2026", "99 year before 2000", "feb 29", "o012o101n", "r00r01n", "f9999d0d1", "99 month after may 18 2027"};

    public static void main(String[] args) throws IllegalAccessException {
        List<Method> face = new ArrayList<>();
        for (Method m : ProseDates.class.getDeclaredMethods()) {
            if (java.lang.reflect.Modifier.isPublic(m.getModifiers())) {
                face.add(m);
            }
        }
        face.sort((a, b) -> a.getName().compareTo(b.getName()));
        int wrong = 0;
        for (int seed = 0; seed < 300; seed++) {
            wrong += run(face, new Random(seed), seed);
        }
        System.out.println(wrong == 0 ? "nothing else is thrown" : wrong + " calls throw what they must not");
        System.exit(wrong == 0 ? 0 : 1);
    }

    private static int run(List<Method> face, Random random, int seed) throws IllegalAccessException {
        ProseDates x = new ProseDates();
        int wrong = 0;
        for (int i = 0; i < 500; i++) {
            if (random.nextInt(4) == 0) {
                give(x, random);
            }
            Method m = face.get(random.nextInt(face.size()));
            Object[] with = new Object[m.getParameterCount()];
            for (int k = 0; k < with.length; k++) {
                int n = random.nextInt(3) > 0 ? random.nextInt(8) - 1 : EDGES[random.nextInt(EDGES.length)];
                with[k] = m.getParameterTypes()[k] == boolean.class ? (Object) random.nextBoolean() : (Object) n;
            }
            try {
                m.invoke(x, with);
            } catch (InvocationTargetException e) {
                boolean may = m.getName().equals("reading") || m.getName().equals("row");
                if (!may || e.getCause().getClass() != NoSuchElementException.class) {
                    System.out.println("run " + seed + ": " + m.getName() + List.of(with) + " throws " + e.getCause());
                    wrong++;
                }
            }
        }
        return wrong;
    }

    private static void give(ProseDates x, Random random) {
        x.end(0);
        StringBuilder t = new StringBuilder();
        if (random.nextBoolean()) {
            t.append(TEXTS[random.nextInt(TEXTS.length)]);
        } else {
            int signs = random.nextInt(81);
            for (int i = 0; i < signs; i++) {
                t.append(SIGNS.charAt(random.nextInt(SIGNS.length())));
            }
        }
        for (int i = 0; i < t.length(); i += 4) {
            int v = 0;
            for (int k = 0; k < 4; k++) {
                v = v << 8 | (i + k < t.length() ? t.charAt(i + k) : 0);
            }
            x.sign(v);
        }
        x.end(t.length());
    }
}
