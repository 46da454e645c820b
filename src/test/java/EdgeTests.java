import java.lang.reflect.InvocationTargetException;
import java.lang.reflect.Method;
import java.lang.reflect.Modifier;
import java.util.TreeMap;

/** Runs each test of the document's edges: every method whose name begins with promise and two digits, by its promise. */
public final class EdgeTests {
    private static final Class<?>[] PARTS = {WalkerEdges.class, TextEdges.class, DeedEdges.class, ForetoldEdges.class, WalkEdges.class, SheetEdges.class};
    private static final int PROMISES = 33;

    private EdgeTests() {
    }

    public static void main(String[] args) throws Exception {
        TreeMap<String, Method> tests = new TreeMap<>();
        for (Class<?> part : PARTS) {
            for (Method m : part.getDeclaredMethods()) {
                if (m.getName().matches("promise[0-9][0-9].*")) {
                    Check.due(m.getName() + " is there once and static", tests.containsKey(m.getName()) || !Modifier.isStatic(m.getModifiers()) ? 0 : 1, 1);
                    tests.put(m.getName(), m);
                }
            }
        }
        int[] found = new int[PROMISES + 1];
        for (Method m : tests.values()) {
            found[Integer.parseInt(m.getName().substring(7, 9))]++;
            run(m);
        }
        for (int promise = 1; promise <= PROMISES; promise++) {
            Check.due("promise " + promise + " has tests of its edges", Math.min(1, found[promise]), 1);
        }
        System.out.println("EdgeTests: " + tests.size() + " tests");
        Check.end("EdgeTests");
    }

    private static void run(Method test) throws Exception {
        Sand.topic = test.getName();
        try {
            test.invoke(null);
        } catch (InvocationTargetException thrown) {
            Check.due(test.getName() + " threw " + thrown.getCause(), 1, 0);
        }
    }
}
