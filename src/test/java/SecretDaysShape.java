import java.lang.management.ManagementFactory;
import java.lang.reflect.Array;
import java.lang.reflect.Constructor;
import java.lang.reflect.Field;
import java.lang.reflect.Method;
import java.lang.reflect.Modifier;
import java.util.ArrayList;
import java.util.Arrays;
import java.util.IdentityHashMap;
import java.util.List;
import java.util.Map;
import java.util.TreeSet;

/** The public face of the compiled class, and the room an object takes. */
public final class SecretDaysShape {
    private static int wrong = 0;
    private static int asked = 0;

    private static void must(String what, boolean holds) {
        asked++;
        if (!holds) {
            wrong++;
            System.out.println("not so: " + what);
        }
    }

    private static final String[] FACE = {
        "int feed(long, long, long)", "int town()", "boolean law(boolean)", "int person(int, int)", "int date(int, int)",
        "int free(int, int)", "int away(int, int)", "int soonest(int, int)", "int by(int, int)", "int hands(int, int)",
        "int ways(int, int)", "int cant(int, int)", "int all(int)", "int knows(int, int)",
        "int letIn(int, int, int, int, int)", "int cut(int, int, int)", "int meet(int, int, int)",
        "int newcomer(int, int, int, int, int)", "int report(int, int, int, boolean)", "boolean clear()", "int holds()",
        "int began(int)", "int wrong()", "int instead(int)", "int runs(int, int, int, int, int, int)",
        "boolean mark(int, boolean)", "int count(int)"
    };

    private static void face() {
        Class<?> c = SecretDays.class;
        must("the class is public and final", Modifier.isPublic(c.getModifiers()) && Modifier.isFinal(c.getModifiers()));
        TreeSet<String> got = new TreeSet<>();
        TreeSet<String> names = new TreeSet<>();
        for (Method m : c.getDeclaredMethods()) {
            if (Modifier.isPublic(m.getModifiers())) {
                String types = Arrays.toString(m.getParameterTypes());
                got.add(m.getReturnType() + " " + m.getName() + "(" + types.substring(1, types.length() - 1) + ")");
                names.add(m.getName());
            } else {
                must(m.getName() + " is private", Modifier.isPrivate(m.getModifiers()));
            }
        }
        for (Method m : c.getDeclaredMethods()) {
            must(m + " is the public one of its name", Modifier.isPublic(m.getModifiers()) || !names.contains(m.getName()));
        }
        must("the public methods are " + got, got.equals(new TreeSet<>(Arrays.asList(FACE))));
        for (Constructor<?> k : c.getDeclaredConstructors()) {
            must("one public constructor without parameters", Modifier.isPublic(k.getModifiers()) && k.getParameterCount() == 0);
        }
        for (Field f : c.getDeclaredFields()) {
            must(f.getName() + " is private, or NONE", Modifier.isPrivate(f.getModifiers()) || f.getName().equals("NONE"));
        }
        for (Class<?> k : c.getDeclaredClasses()) {
            int mods = k.getModifiers();
            must(k + " is static and not public", Modifier.isStatic(mods) && !Modifier.isPublic(mods) && !Modifier.isProtected(mods));
            for (Method m : k.getDeclaredMethods()) {
                must(m + " bears no public name", !names.contains(m.getName()));
            }
        }
    }

    /** What hangs on an object: how many objects and arrays, how many fields and elements. */
    private static long[] weigh(Object root) throws Exception {
        Map<Object, Boolean> seen = new IdentityHashMap<>();
        List<Object> open = new ArrayList<>();
        open.add(root);
        seen.put(root, true);
        long places = 0;
        for (int i = 0; i < open.size(); i++) {
            Object at = open.get(i);
            List<Object> parts = new ArrayList<>();
            if (at.getClass().isArray()) {
                places += Array.getLength(at);
                for (int j = 0; j < Array.getLength(at) && !at.getClass().getComponentType().isPrimitive(); j++) {
                    parts.add(Array.get(at, j));
                }
            } else {
                for (Field f : at.getClass().getDeclaredFields()) {
                    if (!Modifier.isStatic(f.getModifiers())) {
                        places++;
                        f.setAccessible(true);
                        if (!f.getType().isPrimitive()) {
                            parts.add(f.get(at));
                        }
                    }
                }
            }
            for (Object part : parts) {
                if (part != null && seen.put(part, true) == null) {
                    open.add(part);
                }
            }
        }
        return new long[] {open.size(), places};
    }

    private static void callAll(SecretDays x, int i) {
        String text = "person a born 10 name 30 ill 50;person b born 20;person c born 30;calls b on a;calls c on b;calls a on c;"
            + "away a from 0 0 to 0 3;secret s with a from 0 0;secret t with b from 0 9;law names;";
        for (int at = 0; at < text.length(); at += 8) {
            long part = 0;
            for (int j = at; j < at + 8; j++) {
                part = part << 8 | (j < text.length() ? text.charAt(j) : 0);
            }
            x.feed(part, 0, 0);
        }
        x.town();
        x.law(i % 2 == 0);
        x.mark(i % 4, false);
        x.report(2, 0, 300, true);
        int sum = x.person(0, 0) + x.date(0, 0) + x.free(0, 10) + x.away(0, 0) + x.soonest(0, 2) + x.by(0, 2) + x.hands(0, 2) + x.ways(0, 2)
            + x.cant(0, 30) + x.all(0) + x.knows(0, 30) + x.letIn(0, 2, 999, 2, 15) + x.cut(0, 2, 4391) + x.meet(0, 1, 0)
            + x.newcomer(1, 4, 0, 2, 0) + x.holds() + x.began(0) + x.wrong() + x.instead(1) + x.runs(i, 20, 0, 2, 4391, 1) + x.count(0);
        must("the calls answer", sum != Integer.MIN_VALUE);
        x.mark(i % 4, true);
        x.clear();
    }

    private static void room() throws Exception {
        SecretDays x = new SecretDays();
        long[] weight = weigh(x);
        must("a new object has under 200 objects, not " + weight[0], weight[0] < 200);
        must("a new object has under 8,000 fields and elements, not " + weight[1], weight[1] < 8000);
        callAll(x, 0);
        long[] later = weigh(x);
        must("calls make it no larger", later[0] == weight[0] && later[1] == weight[1]);
        if (ManagementFactory.getThreadMXBean() instanceof com.sun.management.ThreadMXBean meter) {
            long self = Thread.currentThread().getId();
            long before = meter.getThreadAllocatedBytes(self);
            long meterItself = meter.getThreadAllocatedBytes(self) - before;
            before = meter.getThreadAllocatedBytes(self);
            for (int i = 0; i < 50; i++) {
                callAll(x, i);
            }
            long made = meter.getThreadAllocatedBytes(self) - before - meterItself;
            must("2,000 calls make no objects, but " + made + " bytes", made <= 16384);
        }
    }

    public static void main(String[] args) throws Exception {
        face();
        room();
        System.out.println(wrong == 0 ? asked + " rules are kept" : wrong + " rules are not kept");
        if (wrong != 0) {
            System.exit(1);
        }
    }
}
