import java.lang.reflect.Field;
import java.lang.reflect.InvocationTargetException;
import java.lang.reflect.Method;

/** Whether errors() finds what cannot come to be by calls: its values are spoiled from outside. */
final class LawTests {
    private final Report report;

    private LawTests(Report report) {
        this.report = report;
    }

    static void runAll(Report report) throws ReflectiveOperationException {
        LawTests tests = new LawTests(report);
        tests.names();
        tests.slots();
    }

    private static Object get(Object of, String name) throws ReflectiveOperationException {
        Field field = of.getClass().getDeclaredField(name);
        field.setAccessible(true);
        return field.get(of);
    }

    /** Makes a part of a fraction, num or den, another small number; all that holds the fraction has it then. */
    private static void spoil(Object fraction, String part, long value) throws ReflectiveOperationException {
        Object nat = get(fraction, part);
        Method set = nat.getClass().getDeclaredMethod("setSmall", long.class);
        set.setAccessible(true);
        set.invoke(nat, value);
    }

    private static Object valueOf(Talk t, int name) throws ReflectiveOperationException {
        Method present = ExactlySaid.class.getDeclaredMethod("present");
        present.setAccessible(true);
        Object[] names = (Object[]) get(get(invoked(present, t.x), "book"), "names");
        return get(names[name], "value");
    }

    private static Object invoked(Method method, Object of) throws IllegalAccessException, InvocationTargetException {
        return method.invoke(of);
    }

    private void names() throws ReflectiveOperationException {
        for (int i = 0; i < 3; i++) {
            Talk t = new Talk();
            t.run("a=1/2");
            t.run("b=3/4");
            t.run("c=5/6");
            report.check("49 names that hold", t.x.errors(), 0);
            spoil(valueOf(t, i), "den", 7);
            report.check("49 a name's value, " + i, t.x.errors(), 1);
        }
        Talk t = new Talk();
        t.run("a=1/2");
        t.run("b=a+1");
        spoil(valueOf(t, 0), "num", 3);
        report.check("49 a name's value that another one uses", t.x.errors(), 2);
    }

    private void slots() throws ReflectiveOperationException {
        for (int i = 0; i < 10; i++) {
            Talk t = new Talk();
            t.run("1/4");
            for (int k = 0; k < 10; k++) {
                t.x.keep(k);
            }
            t.run("1/4");
            t.x.keep(i);
            report.check("49 slots that hold", t.x.errors(), 0);
            spoil(((Object[]) get(t.x, "slots"))[i], "num", 2);
            // as the lesser one of a pair it is not what comes back from 1/4, and it is written as 2/4
            report.check("49 a slot that is not in lowest terms, " + i, t.x.errors(), 9 - i + 1);
        }
    }
}
