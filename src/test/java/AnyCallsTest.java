import java.lang.management.ManagementFactory;
import java.lang.reflect.Array;
import java.lang.reflect.Field;
import java.lang.reflect.Modifier;
import java.util.IdentityHashMap;
import java.util.Map;
import java.util.Random;

/**
 * Any calls with any arguments in any state: none may throw, and none may take room, since all calls of
 * a run share one (what a judge needs is made with it).
 */
public final class AnyCallsTest {
    private static final int[] EDGES = {0, 1, -1, 2, 3, 8, 9, 10, 12, 13, 31, 32, 126, 127, 160, 161, 400, 1000000000,
        1000000001, -1000000000, Integer.MIN_VALUE, Integer.MAX_VALUE, 0x783D3100, 0x7C785E38, 0x2D313D78, 0x7E5B7828};
    private static final String[] TEXTS = {"x^2=2|", "(x-1)^3*(x+2)^2<0&", "~[x^8-7*x^3+1<0]|", "x=x", "((x^2-9)^2-40)^2<99",
        "10^9*x=1|x^8-10^9*x+1=0|x^7-10^9*x+1>0", "x^9=0", "[", "(2*x-3)*(3*x^2-5)=0&"};

    public static void main(String[] args) throws IllegalAccessException {
        Random random = new Random(7);
        boolean fine = true;
        for (int turn = 0; turn < 300 && fine; turn++) {
            fine = runs(random);
        }
        fine = fine && takesNoRoom() && isSmall();
        System.out.println(fine ? "no call threw, none took room, a judge is small" : "FAILED");
        System.exit(fine ? 0 : 1);
    }

    private static boolean runs(Random random) {
        RootJudge judge = new RootJudge();
        String call = "";
        try {
            for (int i = 0; i < 600; i++) {
                int kind = random.nextInt(18);
                int a = any(random);
                int b = any(random);
                int c = any(random);
                call = kind + " " + a + " " + b + " " + c;
                if (kind < 15) {
                    ask(judge, kind, a, b, c);
                } else {
                    String text = TEXTS[random.nextInt(TEXTS.length)];
                    for (int at = 0; at < text.length(); at++) {
                        judge.type(text.charAt(at));
                    }
                }
            }
        } catch (RuntimeException e) {
            System.out.println("call " + call + " threw " + e);
            e.printStackTrace(System.out);
            return false;
        }
        return true;
    }

    private static int any(Random random) {
        int kind = random.nextInt(4);
        return kind == 0 ? random.nextInt() : kind == 1 ? EDGES[random.nextInt(EDGES.length)] : random.nextInt(9);
    }

    private static long ask(RootJudge judge, int kind, int a, int b, int c) {
        switch (kind) {
            case 0: return judge.type(a);
            case 1: return judge.four(a);
            case 2: return judge.load();
            case 3: return judge.count(a);
            case 4: return judge.atom(a, b);
            case 5: return judge.judge(a);
            case 6: return judge.holds(a);
            case 7: return judge.sign(a, b);
            case 8: return judge.root(a, b);
            case 9: return judge.times(a, b);
            case 10: return judge.exact(a, b);
            case 11: return judge.common(a);
            case 12: return judge.simple(a, b);
            case 13: return judge.cellOf(a, b);
            default: return judge.signAt(a, b, c);
        }
    }

    private static boolean takesNoRoom() {
        com.sun.management.ThreadMXBean threads = (com.sun.management.ThreadMXBean) ManagementFactory.getThreadMXBean();
        RootJudge judge = new RootJudge();
        long most = 0;
        for (int turn = 0; turn < 20; turn++) {
            String text = TEXTS[5];
            for (int at = 0; at < text.length(); at++) {
                judge.type(text.charAt(at));
            }
            long before = threads.getCurrentThreadAllocatedBytes();
            judge.load();
            for (int kind = 3; kind < 15; kind++) {
                for (int k = 0; k < 8; k++) {
                    ask(judge, kind, k, kind == 13 ? 1 + k : k % 2, 1);
                }
            }
            long taken = threads.getCurrentThreadAllocatedBytes() - before;
            // The first turns load classes and may be compiled anew.
            most = turn < 10 ? 0 : Math.max(most, taken);
        }
        if (most > 1000) {
            System.out.println("the calls took " + most + " bytes");
        }
        return most <= 1000;
    }

    /** Several hundred judges fit into the room of one run, 600,000 objects with 7,300,000 fields and elements. */
    private static boolean isSmall() throws IllegalAccessException {
        Map<Object, Object> objects = new IdentityHashMap<>();
        long parts = partsOf(new RootJudge(), objects);
        boolean small = objects.size() <= 1000 && parts <= 12000;
        if (!small) {
            System.out.println("a judge has " + objects.size() + " objects with " + parts + " fields and elements");
        }
        return small;
    }

    private static long partsOf(Object object, Map<Object, Object> objects) throws IllegalAccessException {
        if (object == null || objects.put(object, object) != null) {
            return 0;
        }
        Class<?> type = object.getClass();
        long parts = 0;
        if (type.isArray()) {
            int length = Array.getLength(object);
            parts = length;
            for (int i = 0; i < length && !type.getComponentType().isPrimitive(); i++) {
                parts += partsOf(Array.get(object, i), objects);
            }
            return parts;
        }
        for (Field field : type.getDeclaredFields()) {
            if (!Modifier.isStatic(field.getModifiers())) {
                parts++;
                field.setAccessible(true);
                parts += field.getType().isPrimitive() ? 0 : partsOf(field.get(object), objects);
            }
        }
        return parts;
    }
}
