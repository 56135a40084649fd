import java.lang.reflect.Constructor;
import java.lang.reflect.Field;
import java.lang.reflect.Method;
import java.math.BigInteger;
import java.util.ArrayList;
import java.util.List;
import java.util.Random;

/**
 * 'Numbers are reckoned exactly, whatever their size': the class's own long numbers against BigInteger. Texts
 * hardly ever lead to a carry through many full limbs, so these numbers are asked themselves.
 */
public final class LongNumbersTest {
    private static final int ROOM = 40;
    private static final Class<?> BIG = inside("Big");

    public static void main(String[] args) throws ReflectiveOperationException {
        List<BigInteger> numbers = numbers(new Random(11));
        for (BigInteger a : numbers) {
            alone(a);
            for (BigInteger b : numbers) {
                together(a, b);
            }
        }
        longs();
        Report.end();
    }

    private static Class<?> inside(String name) {
        for (Class<?> one : RootJudge.class.getDeclaredClasses()) {
            if (one.getSimpleName().equals(name)) {
                return one;
            }
        }
        throw new IllegalStateException("there is no class " + name);
    }

    /** Numbers with many limbs of ones or zeros, at whose ends carries begin and end, and any others. */
    private static List<BigInteger> numbers(Random random) {
        List<BigInteger> all = new ArrayList<>();
        all.add(BigInteger.ZERO);
        for (int bits : new int[] {0, 1, 31, 32, 33, 63, 64, 65, 96, 128, 200, 256, 511, 512}) {
            BigInteger power = BigInteger.ONE.shiftLeft(bits);
            all.add(power);
            all.add(power.add(BigInteger.ONE));
            all.add(power.subtract(BigInteger.ONE));
            all.add(power.subtract(BigInteger.ONE.shiftLeft(bits / 2)));
            all.add(new BigInteger(bits + 1, random));
        }
        List<BigInteger> both = new ArrayList<>(all);
        for (BigInteger one : all) {
            both.add(one.negate());
        }
        return both;
    }

    private static Field field(String name) throws ReflectiveOperationException {
        Field field = BIG.getDeclaredField(name);
        field.setAccessible(true);
        return field;
    }

    private static Object call(Object big, String name, Object... arguments) throws ReflectiveOperationException {
        for (Method method : BIG.getDeclaredMethods()) {
            if (method.getName().equals(name)) {
                method.setAccessible(true);
                return method.invoke(big, arguments);
            }
        }
        throw new IllegalStateException("there is no method " + name);
    }

    /** What lies in the limbs above a number is left over from earlier ones, so it must not count. */
    private static Object big(BigInteger value) throws ReflectiveOperationException {
        Constructor<?> constructor = BIG.getDeclaredConstructor(int.class);
        constructor.setAccessible(true);
        Object big = constructor.newInstance(ROOM);
        int[] limbs = (int[]) field("limbs").get(big);
        java.util.Arrays.fill(limbs, 0xA5A5A5A5);
        int size = (value.abs().bitLength() + 31) / 32;
        for (int i = 0; i < size; i++) {
            limbs[i] = value.abs().shiftRight(32 * i).intValue();
        }
        field("size").setInt(big, size);
        field("mark").setInt(big, value.signum());
        return big;
    }

    private static BigInteger value(Object big) throws ReflectiveOperationException {
        int[] limbs = (int[]) field("limbs").get(big);
        BigInteger value = BigInteger.ZERO;
        for (int i = field("size").getInt(big) - 1; i >= 0; i--) {
            value = value.shiftLeft(32).add(BigInteger.valueOf(limbs[i] & 0xFFFFFFFFL));
        }
        return field("mark").getInt(big) < 0 ? value.negate() : value;
    }

    private static void due(String what, Object big, BigInteger want) throws ReflectiveOperationException {
        BigInteger got = value(big);
        Report.due(what + " is " + got + ", due is " + want + ": whether they are the same", got.equals(want) ? 1 : 0, 1);
        Report.due(what + ": its sign", field("mark").getInt(big), want.signum());
        Report.due(what + ": its length", (Integer) call(big, "bits"), want.abs().bitLength());
    }

    private static void alone(BigInteger a) throws ReflectiveOperationException {
        Report.due(a + ": whether it is even", (Boolean) call(big(a), "isEven") ? 1 : 0, a.testBit(0) ? 0 : 1);
        for (int by : new int[] {-5, 0, 1, 7, 31, 32, 33, 63, 64, 65, 160, 600}) {
            Object up = big(a);
            call(up, "shiftUp", by);
            due(a + " shifted up by " + by, up, by > 0 ? a.shiftLeft(by) : a);
            Object down = big(a);
            call(down, "shiftDown", by);
            BigInteger left = by > 0 ? a.abs().shiftRight(by) : a.abs();
            due(a + " shifted down by " + by, down, a.signum() < 0 ? left.negate() : left);
        }
        Object copy = big(BigInteger.TEN.pow(50));
        call(copy, "copy", big(a));
        due("a copy of " + a, copy, a);
        if (a.bitLength() < 63) {
            Report.due("the long of " + a, (Long) call(big(a), "toLong"), a.longValue());
        }
    }

    private static void together(BigInteger a, BigInteger b) throws ReflectiveOperationException {
        Object sum = big(a);
        call(sum, "add", big(b), 1);
        due(a + " + " + b, sum, a.add(b));
        Object difference = big(a);
        call(difference, "add", big(b), -1);
        due(a + " - " + b, difference, a.subtract(b));
        Object product = big(BigInteger.TEN.pow(60));
        call(product, "setProduct", big(a), big(b));
        due(a + " * " + b, product, a.multiply(b));
        Report.due("the sizes of " + a + " and " + b, (Integer) call(big(a), "compareSize", big(b)),
            a.abs().compareTo(b.abs()));
    }

    private static void longs() throws ReflectiveOperationException {
        for (long value : new long[] {0, 1, -1, 2147483647L, 4294967295L, 4294967296L, -4294967297L, 1000000000000000000L,
            Long.MAX_VALUE, -Long.MAX_VALUE}) {
            Object big = big(BigInteger.TEN.pow(30));
            call(big, "set", value);
            due("set to " + value, big, BigInteger.valueOf(value));
        }
    }
}
