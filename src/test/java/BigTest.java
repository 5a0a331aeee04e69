import java.lang.reflect.Constructor;
import java.lang.reflect.Field;
import java.lang.reflect.Method;
import java.math.BigInteger;
import java.util.Random;

/**
 * The big numbers behind promise 2, limb by limb: some turns of the long division come seldom in other tests. How an
 * object holds its numbers is free: without such a class inside there is nothing to look at.
 */
public final class BigTest {
    private static final int[] LIMBS = {0, 1, 2, 499_999_999, 500_000_000, 500_000_001, 999_999_998, 999_999_999};
    private static final BigInteger BASE = BigInteger.valueOf(1_000_000_000);
    private static final Check CHECK = new Check("BigTest");
    private static final Random RANDOM = new Random(3);
    private static final Class<?> BIG = big();

    public static void main(String[] args) throws ReflectiveOperationException {
        CHECK.promise(2);
        if (BIG == null) {
            System.out.println("BigTest: no class Big inside, nothing to look at");
            return;
        }
        for (int round = 0; round < 20_000; round++) {
            divide(number(1 + RANDOM.nextInt(8)), number(1 + RANDOM.nextInt(5)));
            BigInteger factor = number(1 + RANDOM.nextInt(5));
            divide(factor.multiply(number(2)).subtract(BigInteger.valueOf(RANDOM.nextInt(2))).abs(), factor);
            multiplyAndAdd(number(RANDOM.nextInt(8)), number(RANDOM.nextInt(8)), number(2), number(1));
        }
        CHECK.end();
    }

    private static Class<?> big() {
        for (Class<?> inside : Queueward.class.getDeclaredClasses()) {
            if (inside.getSimpleName().equals("Big")) {
                return inside;
            }
        }
        return null;
    }

    private static BigInteger number(int limbs) {
        BigInteger number = BigInteger.ZERO;
        for (int i = 0; i < limbs; i++) {
            int limb = RANDOM.nextInt(4) == 0 ? RANDOM.nextInt(1_000_000_000) : LIMBS[RANDOM.nextInt(LIMBS.length)];
            number = number.multiply(BASE).add(BigInteger.valueOf(limb));
        }
        return number;
    }

    private static void divide(BigInteger number, BigInteger divisor) throws ReflectiveOperationException {
        if (divisor.signum() == 0) {
            return;
        }
        Object rest = bigOf(number);
        Object by = bigOf(divisor);
        Object quotient = bigOf(BigInteger.TEN);
        method("divide", BIG, BIG).invoke(rest, by, quotient);
        BigInteger[] due = number.divideAndRemainder(divisor);
        CHECK.due(number + " by " + divisor, due[0], () -> valueOf(quotient));
        CHECK.due("rest of " + number + " by " + divisor, due[1], () -> valueOf(rest));
        CHECK.due("divisor of " + number + " by " + divisor, divisor, () -> valueOf(by));
    }

    private static void multiplyAndAdd(BigInteger one, BigInteger other, BigInteger factor, BigInteger times)
        throws ReflectiveOperationException {
        Object big = bigOf(one);
        method("multiply", long.class).invoke(big, factor.longValueExact());
        CHECK.due(one + " times " + factor, one.multiply(factor), () -> valueOf(big));
        Object sum = bigOf(one);
        Object more = bigOf(other);
        method("addScaled", BIG, long.class).invoke(sum, more, times.longValueExact());
        CHECK.due(one + " and " + other + " times " + times, one.add(other.multiply(times)), () -> valueOf(sum));
        Object compared = method("compareWith", BIG).invoke(bigOf(one), more);
        CHECK.due(one + " compared with " + other, one.compareTo(other), () -> compared);
        boolean isLong = one.bitLength() < 64;
        Object again = bigOf(one);
        Object gotLong = method("isLong").invoke(again);
        CHECK.due(one + " is a long", isLong, () -> gotLong);
        Object isOne = method("isOne").invoke(again);
        CHECK.due(one + " is one", one.equals(BigInteger.ONE), () -> isOne);
        Object digits = method("digitCount").invoke(again);
        CHECK.due("digits of " + one, one.toString().length(), () -> digits);
        if (isLong) {
            Object number = method("toLong").invoke(again);
            CHECK.due(one + " as a long", one.longValueExact(), () -> number);
        }
    }

    private static Method method(String name, Class<?>... types) throws ReflectiveOperationException {
        Method method = BIG.getDeclaredMethod(name, types);
        method.setAccessible(true);
        return method;
    }

    private static Field field(String name) throws ReflectiveOperationException {
        Field field = BIG.getDeclaredField(name);
        field.setAccessible(true);
        return field;
    }

    private static Object bigOf(BigInteger number) throws ReflectiveOperationException {
        Constructor<?> constructor = BIG.getDeclaredConstructor();
        constructor.setAccessible(true);
        Object big = constructor.newInstance();
        int[] limbs = (int[]) field("limbs").get(big);
        int size = 0;
        for (BigInteger rest = number; rest.signum() > 0; rest = rest.divide(BASE)) {
            limbs[size] = rest.mod(BASE).intValueExact();
            size++;
        }
        field("size").setInt(big, size);
        return big;
    }

    /** Also looks that the highest limb is not 0, and those beyond it are. */
    private static BigInteger valueOf(Object big) {
        try {
            int[] limbs = (int[]) field("limbs").get(big);
            int size = field("size").getInt(big);
            BigInteger number = BigInteger.ZERO;
            for (int i = limbs.length - 1; i >= 0; i--) {
                number = number.multiply(BASE).add(BigInteger.valueOf(limbs[i]));
                if (limbs[i] < 0 || i >= size && limbs[i] != 0 || i == size - 1 && limbs[i] == 0) {
                    throw new AssertionError("limb " + i + " of " + size + " is " + limbs[i]);
                }
            }
            return number;
        } catch (ReflectiveOperationException e) {
            throw new AssertionError(e);
        }
    }
}
