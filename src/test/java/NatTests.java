import java.lang.reflect.Constructor;
import java.lang.reflect.Field;
import java.lang.reflect.Method;
import java.math.BigInteger;
import java.util.Random;

/** The program's own long numbers against BigInteger, with the limbs that make a division's guess go wrong. */
final class NatTests {
    private static final BigInteger BASE = BigInteger.valueOf(1000000000);
    private static final int[] HARD = {0, 0, 1, 499999999, 500000000, 500000001, 999999998, 999999999};

    private final Class<?> nat = Class.forName("ExactlySaid$Nat");
    private final Class<?> reckoner = Class.forName("ExactlySaid$Reckoner");
    private final Random random = new Random(7);

    private NatTests() throws ReflectiveOperationException {
    }

    static void runAll(Report report) throws ReflectiveOperationException {
        NatTests tests = new NatTests();
        Object with = tests.make(tests.reckoner);
        for (int i = 0; i < 20000; i++) {
            tests.one(report, with, i);
        }
    }

    private Object make(Class<?> type) throws ReflectiveOperationException {
        Constructor<?> constructor = type.getDeclaredConstructor();
        constructor.setAccessible(true);
        return constructor.newInstance();
    }

    private Object natOf(BigInteger value) throws ReflectiveOperationException {
        Object made = make(nat);
        int[] limbs = new int[80];
        int size = 0;
        for (BigInteger left = value; left.signum() > 0; left = left.divide(BASE)) {
            limbs[size] = left.mod(BASE).intValue();
            size++;
        }
        field("limbs").set(made, limbs);
        field("size").set(made, size);
        return made;
    }

    private BigInteger valueOf(Object made) throws ReflectiveOperationException {
        int[] limbs = (int[]) field("limbs").get(made);
        BigInteger value = BigInteger.ZERO;
        int size = (Integer) field("size").get(made);
        for (int i = size - 1; i >= 0; i--) {
            value = value.multiply(BASE).add(BigInteger.valueOf(limbs[i]));
        }
        return size > 0 && limbs[size - 1] == 0 ? BigInteger.ONE.negate() : value;
    }

    private Field field(String name) throws ReflectiveOperationException {
        Field field = nat.getDeclaredField(name);
        field.setAccessible(true);
        return field;
    }

    private void call(Class<?> type, Object of, String name, Object... args) throws ReflectiveOperationException {
        Class<?>[] types = new Class<?>[args.length];
        for (int i = 0; i < args.length; i++) {
            types[i] = args[i].getClass() == Integer.class ? int.class : args[i].getClass();
        }
        Method method = type.getDeclaredMethod(name, types);
        method.setAccessible(true);
        method.invoke(of, args);
    }

    private BigInteger number(int most) {
        BigInteger value = BigInteger.ZERO;
        boolean isHard = random.nextBoolean();
        for (int i = random.nextInt(most + 1); i > 0; i--) {
            int limb = isHard || random.nextInt(4) == 0 ? HARD[random.nextInt(HARD.length)]
                : random.nextInt(1000000000);
            value = value.multiply(BASE).add(BigInteger.valueOf(limb));
        }
        return value;
    }

    private void one(Report report, Object with, int run) throws ReflectiveOperationException {
        BigInteger a = number(10);
        BigInteger b = number(6).max(BigInteger.ONE);
        if (random.nextInt(4) == 0) {
            a = b.multiply(number(5)).add(BigInteger.valueOf(random.nextInt(3) - 1)).max(BigInteger.ZERO);
        }
        String what = "numbers " + run + ": " + a + " and " + b;
        Object quotient = make(nat);
        Object rest = make(nat);
        call(reckoner, with, "divide", natOf(a), natOf(b), quotient, rest);
        BigInteger[] due = a.divideAndRemainder(b);
        report.check(what + " quotient", valueOf(quotient), due[0]);
        report.check(what + " rest", valueOf(rest), due[1]);
        Object other = make(nat);
        call(reckoner, with, "gcd", natOf(a), natOf(b), other);
        report.check(what + " gcd", valueOf(other), a.gcd(b));
        call(nat, other, "setProduct", natOf(a), natOf(b));
        report.check(what + " product", valueOf(other), a.multiply(b));
        Object sum = natOf(a);
        call(nat, sum, "plus", natOf(b));
        report.check(what + " sum", valueOf(sum), a.add(b));
        call(nat, sum, "minus", natOf(a));
        report.check(what + " difference", valueOf(sum), b);
        call(nat, sum, "raise", 1000000000, 999999999);
        report.check(what + " raised", valueOf(sum), b.multiply(BASE).add(BASE).subtract(BigInteger.ONE));
    }
}
