import java.lang.reflect.Field;
import java.lang.reflect.Method;
import java.lang.reflect.Modifier;
import java.util.Arrays;
import java.util.TreeSet;

/** The face is the document's, to the letter, and calls make no objects. */
public final class FaceTests {
    private static final String[] METHODS = {
        "int walker(int,int,int)", "int of(int,int)", "int isle(int,int)", "int print(int,int)", "int claim(int,int)", "int held(int)",
        "int type(int)", "int settle()", "int count(int)", "int step(int,int)", "int hours(int)", "int drift(int)", "int rake(int)",
        "int undo()", "int seed(int)", "int ahead(int,int)", "int land(int,int)", "int lasts(int,int)", "int county(int)",
        "int way(int,int,int)", "int walk(int,int,int,int)", "int well(int,int,int)", "int crabs(int,int,int,int)", "int image()",
        "int restore()", "int raked(int,int,int,int)", "int shoes(int,int,int,int)", "int film(int,int,int,int,int)",
        "int sheet(int,int,int)", "int drop(int)", "int item(int,int,int,long)", "int copy(int,int,int,int,int)"};
    private static final String[] CONSTANTS = {"BAD -1", "NOT -2", "FULL -3", "NONE -4", "NULL -11", "CAST -12", "INDEX -13", "SIZE -14"};

    private FaceTests() {
    }

    public static void main(String[] args) throws Exception {
        Check.due("public and final", FootIsle.class.getModifiers(), Modifier.PUBLIC | Modifier.FINAL);
        Check.due("constructors", FootIsle.class.getDeclaredConstructors().length, 1);
        Check.due("public ones without arguments", FootIsle.class.getConstructor().getParameterCount(), 0);
        methods();
        fields();
        for (Class<?> inside : FootIsle.class.getDeclaredClasses()) {
            Check.due(inside.getName() + " is static", inside.getModifiers() & Modifier.STATIC, Modifier.STATIC);
            Check.due(inside.getName() + " is not public", inside.getModifiers() & (Modifier.PUBLIC | Modifier.PROTECTED), 0);
            Check.due(inside.getName() + " has few fields", Math.max(20, inside.getDeclaredFields().length), 20);
        }
        room();
        Check.end("FaceTests");
    }

    private static void methods() {
        TreeSet<String> found = new TreeSet<>();
        TreeSet<String> names = new TreeSet<>();
        for (Method m : FootIsle.class.getDeclaredMethods()) {
            if (Modifier.isPrivate(m.getModifiers())) {
                names.add(m.getName());
                continue;
            }
            StringBuilder text = new StringBuilder();
            for (Class<?> p : m.getParameterTypes()) {
                text.append(text.length() == 0 ? "" : ",").append(p.getName());
            }
            found.add(m.getReturnType().getName() + " " + m.getName() + "(" + text + ")");
            Check.due(m + " is public and nothing else", m.getModifiers(), Modifier.PUBLIC);
        }
        same("methods", found, METHODS);
        for (String want : METHODS) {
            String name = want.substring(4, want.indexOf('('));
            Check.due("private methods named " + name, names.contains(name) ? 1 : 0, 0);
        }
    }

    private static void fields() throws Exception {
        TreeSet<String> found = new TreeSet<>();
        for (Field f : FootIsle.class.getDeclaredFields()) {
            if (!Modifier.isPrivate(f.getModifiers())) {
                found.add(f.getName() + " " + f.getInt(null));
                Check.due(f + " is a constant", f.getModifiers(), Modifier.PUBLIC | Modifier.STATIC | Modifier.FINAL);
            }
            if (Modifier.isStatic(f.getModifiers())) {
                Check.due(f + " is final", f.getModifiers() & Modifier.FINAL, Modifier.FINAL);
            }
        }
        same("constants", found, CONSTANTS);
    }

    private static void same(String what, TreeSet<String> found, String[] want) {
        TreeSet<String> due = new TreeSet<>(Arrays.asList(want));
        if (!found.equals(due)) {
            System.out.println(what + " are " + found + ", due are " + due);
        }
        Check.due(what + " are the document's", found.equals(due) ? 1 : 0, 1);
    }

    /** All calls of a run share one room: a call that makes nothing can't fill it. */
    private static void room() {
        com.sun.management.ThreadMXBean bean = (com.sun.management.ThreadMXBean) java.lang.management.ManagementFactory.getThreadMXBean();
        long me = Thread.currentThread().getId();
        FootIsle warm = new FootIsle();
        everyCall(warm);
        FootIsle x = new FootIsle();
        bean.getThreadAllocatedBytes(me);
        long before = bean.getThreadAllocatedBytes(me);
        for (int i = 0; i < 7; i++) {
            everyCall(x);
        }
        long made = bean.getThreadAllocatedBytes(me) - before;
        if (made > 0) {
            System.out.println("calls made " + made + " bytes");
        }
        Check.due("calls make no objects", made > 256 ? 1 : 0, 0);
    }

    private static void everyCall(FootIsle x) {
        for (int i = 0; i < 7; i++) {
            x.type("21;k333".charAt(i));
        }
        x.settle();
        x.walker(1, 9, 9);
        x.step(0, 0);
        x.image();
        x.hours(1);
        x.drift(1);
        x.rake(1);
        x.undo();
        x.restore();
        x.seed(4);
        for (int i = 0; i < 10; i++) {
            x.of(0, i);
            x.count(i);
            x.isle(i, 2);
        }
        x.print(0, 27);
        x.claim(0, 27);
        x.held(27);
        x.ahead(27, 1);
        x.land(0, 1);
        x.lasts(0, 27);
        x.county(0);
        x.way(1, 0, 63);
        x.walk(0, 4, 3, 0);
        x.well(0, 0, 3);
        x.crabs(0, 27, 3, 4);
        x.sheet(0, 2, 24);
        x.sheet(1, 2, 24);
        x.item(0, 2, 0, 3L);
        x.film(0, 3, 0, 2, 1);
        x.copy(0, 0, 1, 0, 3);
        x.raked(0, 2, 0, 0);
        x.shoes(0, 2, 0, 1);
        x.drop(1);
    }
}
