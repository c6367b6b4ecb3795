import java.lang.management.ManagementFactory;
import java.lang.reflect.Method;
import java.lang.reflect.Modifier;
import java.util.ArrayList;
import java.util.List;
import java.util.Random;

/** No call throws, whatever its arguments; and calls make hardly any objects. */
public final class LimitsTest {
    private static final int[] ODD = {Integer.MIN_VALUE, Integer.MIN_VALUE + 1, -65536, -1000, -100, -64, -9, -3, -2, -1, 0, 1, 2, 3, 4, 5, 6,
        7, 8, 9, 10, 11, 12, 13, 15, 16, 17, 21, 22, 26, 31, 32, 55, 56, 59, 60, 61, 63, 64, 99, 100, 380, 400, 999, 1000, 1001, 9999, 10000,
        65536, 0x6d656c74, Integer.MAX_VALUE - 1, Integer.MAX_VALUE};

    private static List<Method> face() {
        List<Method> all = new ArrayList<>();
        for (Method m : SnowRises.class.getDeclaredMethods()) {
            if (Modifier.isPublic(m.getModifiers())) {
                all.add(m);
            }
        }
        all.sort((a, b) -> a.getName().compareTo(b.getName()));
        return all;
    }

    private static void tell(SnowRises x, int k, String text) {
        StringBuilder s = new StringBuilder(text);
        while (s.length() % 20 != 0) {
            s.append(' ');
        }
        for (int i = 0; i < s.length(); i += 20) {
            int[] v = new int[5];
            for (int j = 0; j < 20; j++) {
                v[j / 4] = v[j / 4] << 8 | s.charAt(i + j);
            }
            x.feed(v[0], v[1], v[2], v[3], v[4]);
        }
        x.text(k);
    }

    /** A full valley: twelve people, texts of the greatest length. */
    private static SnowRises full(int shift) {
        SnowRises x = new SnowRises();
        x.valley(8, 7);
        for (int i = 0; i < 12; i++) {
            x.person(i + shift & 1, i * 7 % 10, i * 3 % 10, 4 * i);
        }
        x.kin(0, 1, true);
        x.kin(3, 8, true);
        tell(x, 0, "match 9-apart+kin when not(1<0 or not(hope<wish and 1=1));match 8;lift 99-far*found when snow>40;melt snow/3+1 when day/2*2=day;");
        tell(x, 1, "on 1 0 and 1 at 0;on 1 2 and 3 at 1;on 1 4 and 5 at 2;on 2 6 and 7 at 3;on 2 8 and 9 at 8;on 999 10 and 11 at 9;on 3 0 and 11 at 0;");
        tell(x, 2, "for 60 snow 30;for 1 snow 0;");
        tell(x, 3, "bare 0 on 999 worth 9;bare 1 on 3 worth 99;");
        x.set(2, 0, 500);
        return x;
    }

    private static Object[] arguments(Method m, Random r) {
        Class<?>[] types = m.getParameterTypes();
        Object[] args = new Object[types.length];
        for (int i = 0; i < args.length; i++) {
            args[i] = types[i] == boolean.class ? (Object) r.nextBoolean()
                : (Object) (r.nextInt(5) == 0 ? ODD[r.nextInt(ODD.length)] : r.nextInt(13) - 1);
        }
        return args;
    }

    private static void neverThrows() throws Exception {
        Random r = new Random(4711);
        List<Method> face = face();
        for (int run = 0; run < 400; run++) {
            SnowRises x = run % 4 == 0 ? new SnowRises() : full(run);
            for (int i = 0; i < 450; i++) {
                Method m = face.get(r.nextInt(face.size()));
                Object[] args = arguments(m, r);
                if (m.getName().equals("valley") && r.nextInt(10) != 0 || m.getName().equals("meets") && r.nextInt(6) != 0) {
                    continue;
                }
                m.invoke(x, args);
            }
        }
        for (Method m : face) {
            for (int v : ODD) {
                SnowRises x = full(0);
                for (int v2 : ODD) {
                    Class<?>[] types = m.getParameterTypes();
                    Object[] args = new Object[types.length];
                    for (int i = 0; i < args.length; i++) {
                        args[i] = types[i] == boolean.class ? (Object) (v2 % 2 == 0) : (Object) (i % 2 == 0 ? v : v2);
                    }
                    if (args.length > 1 || v2 == ODD[0]) {
                        m.invoke(x, args);
                    }
                }
            }
        }
    }

    /** What a method costs: the bytes that the machine gives out in a run of calls of it. */
    private static boolean makesLittle() {
        com.sun.management.ThreadMXBean bean = (com.sun.management.ThreadMXBean) ManagementFactory.getThreadMXBean();
        long id = Thread.currentThread().getId();
        long before = bean.getThreadAllocatedBytes(id);
        SnowRises x = full(0);
        long made = bean.getThreadAllocatedBytes(id) - before;
        x.image(true);
        x.image(false);
        int sum = 0;
        before = bean.getThreadAllocatedBytes(id);
        for (int i = 0; i < 12; i++) {
            sum += x.days(1) + x.lies(i, 60) + x.meets(i % 3) + x.stable(i) + x.best(10 + i) + x.bares(i, 2) + x.who(i) + x.ask(i)
                + x.safe(0, i) + x.cut(0, i) + x.rounds(10 + i) + x.comes(0, i) + x.asks() + x.tribe(i) + x.hopes(1) + x.look(16)
                + x.vow(i, i + 1, 0) + x.sweep(i) + x.stir(i, i, true) + x.match(0, i, true) + x.lift(0, 1, 0, i)
                + x.feed(0x6d656c74, 0x20313b20, 0x20202020, 0x20202020, 0x20202020) + x.text(0) + x.fault(0);
            x.undo();
            x.image(true);
            x.image(false);
        }
        long later = bean.getThreadAllocatedBytes(id) - before;
        System.out.println("a full valley: " + made + " bytes, " + 27 * 12 + " calls: " + later + " bytes (" + sum + ")");
        return later < 20000 && made < 200000;
    }

    public static void main(String[] args) throws Exception {
        neverThrows();
        if (!makesLittle()) {
            System.exit(1);
        }
    }
}
