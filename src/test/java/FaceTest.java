import java.lang.management.ManagementFactory;
import java.lang.reflect.Constructor;
import java.lang.reflect.Field;
import java.lang.reflect.Method;
import java.lang.reflect.Modifier;
import java.util.Set;
import java.util.TreeSet;

/** The class shows the document's face and nothing else, and makes its rows once. */
public final class FaceTest {
    private static final String IAE = " throws IllegalArgumentException";
    private static final String BOTH = " throws IllegalArgumentException IllegalStateException";
    private static final String[] FACE = {
        "void collateral(int int)" + BOTH,
        "int order(int int int int int int)" + BOTH,
        "int block(int int int int int int)" + BOTH,
        "int seal(int)" + BOTH,
        "void liar(int)" + BOTH,
        "void tell(int int int int)" + BOTH,
        "int round() throws IllegalStateException",
        "int vector(int int int int)" + BOTH,
        "int clear(int)" + BOTH,
        "int price(int int)" + BOTH,
        "int traded(int int)" + BOTH,
        "int fill(int int int)" + BOTH,
        "long welfare(int)" + BOTH,
        "void meter(int int int)" + IAE,
        "long balance(int int)" + BOTH,
        "void nextDay()",
    };
    private static int wrong = 0;

    private static void look(boolean good, String what) {
        if (!good) {
            wrong++;
            System.out.println(what);
        }
    }

    private static String joined(Class<?>[] types) {
        StringBuilder text = new StringBuilder();
        for (Class<?> type : types) {
            text.append(text.length() == 0 ? "" : " ").append(type.getSimpleName());
        }
        return text.toString();
    }

    private static String written(Method m) {
        String thrown = joined(m.getExceptionTypes());
        return m.getReturnType().getSimpleName() + " " + m.getName() + "(" + joined(m.getParameterTypes()) + ")"
                + (thrown.isEmpty() ? "" : " throws " + thrown);
    }

    private static void face() {
        Class<?> c = AuctionHour.class;
        look(Modifier.isPublic(c.getModifiers()) && Modifier.isFinal(c.getModifiers()), "the class is public and final");
        Set<String> shown = new TreeSet<>();
        Set<String> names = new TreeSet<>();
        for (Method m : c.getDeclaredMethods()) {
            if (!Modifier.isPrivate(m.getModifiers())) {
                look(Modifier.isPublic(m.getModifiers()) && !Modifier.isStatic(m.getModifiers()), "not of the face: " + m);
                shown.add(written(m));
                names.add(m.getName());
            }
        }
        look(shown.equals(new TreeSet<>(Set.of(FACE))), "the methods shown are " + shown);
        for (Method m : c.getDeclaredMethods()) {
            look(!Modifier.isPrivate(m.getModifiers()) || !names.contains(m.getName()), "a public name: " + m);
        }
        for (Field f : c.getDeclaredFields()) {
            look(Modifier.isPrivate(f.getModifiers()), "not private: " + f);
            look(!Modifier.isStatic(f.getModifiers()) || Modifier.isFinal(f.getModifiers()), "static, not final: " + f);
        }
        Constructor<?>[] made = c.getDeclaredConstructors();
        look(made.length == 1 && Modifier.isPublic(made[0].getModifiers()) && joined(made[0].getParameterTypes()).equals("int"),
                "one public constructor");
        for (Class<?> inside : c.getDeclaredClasses()) {
            look(Modifier.isStatic(inside.getModifiers()) && !Modifier.isPublic(inside.getModifiers()), "inside: " + inside);
            for (Method m : inside.getDeclaredMethods()) {
                look(!names.contains(m.getName()), "a public name inside: " + m);
            }
        }
    }

    /** Two days with as many entries and blocks as there can be; the sum keeps the answers in use. */
    private static long days(AuctionHour x) {
        long sum = 0;
        for (int day = 0; day < 2; day++) {
            for (int p = 0; p < 6; p++) {
                x.collateral(p, 1_000_000_000);
                for (int i = 0; i < 8; i++) {
                    sum += x.order(p, -1, i % 3, (p + i) % 2, 10 + i, 40 + i - p);
                }
                sum += x.block(p, -1, 1, p % 2, 5, 40 + p);
                sum += x.block(p, -1, 6, (p + 1) % 2, 5, 40 - p);
            }
            x.liar(day);
            for (int p = 0; p < 6; p++) {
                sum += x.seal(p);
            }
            sum += x.round();
            x.tell(3, day, 0, 4);
            sum += x.round() + x.round();
            for (int op = 0; op < 4; op++) {
                sum += x.clear(op) + x.price(op, 0) + x.traded(op, 1) + x.welfare(op) + x.balance(op, -1);
                for (int p = 0; p < 6; p++) {
                    x.meter(p, op % 3, p);
                    sum += x.vector(op, p, 1, 2) + x.fill(op, p, 9) + x.balance(op, p);
                }
            }
            x.nextDay();
        }
        return sum;
    }

    /** The bytes that the calls alone make: none but what the virtual machine itself needs at times. */
    private static void memory() {
        com.sun.management.ThreadMXBean bean = (com.sun.management.ThreadMXBean) ManagementFactory.getThreadMXBean();
        long sum = 0;
        long least = Long.MAX_VALUE;
        for (int k = 0; k < 20; k++) {
            AuctionHour x = new AuctionHour(6);
            long before = bean.getCurrentThreadAllocatedBytes();
            sum += days(x);
            least = Math.min(least, bean.getCurrentThreadAllocatedBytes() - before);
        }
        look(least == 0, "two days of calls make " + least + " bytes");
        look(sum != 0, "the days have answers");
    }

    public static void main(String[] args) {
        face();
        memory();
        System.out.println(wrong == 0 ? "the face is the document's, the rows are made once" : wrong + " wrong");
        if (wrong != 0) {
            System.exit(1);
        }
    }
}
