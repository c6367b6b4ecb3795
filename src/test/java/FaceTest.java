import java.lang.reflect.Constructor;
import java.lang.reflect.Field;
import java.lang.reflect.Method;
import java.lang.reflect.Modifier;
import java.util.Set;
import java.util.TreeSet;

/** The class has the document's face and no other member that can be seen from outside. */
public final class FaceTest {
    private static final String[] FACE = {
        "int state(int)", "boolean valley(int,int)", "int person(int,int,int,int)", "boolean set(int,int,int)",
        "boolean kin(int,int,boolean)", "int vow(int,int,int)", "boolean part(int,int)", "int sweep(int)", "int days(int)",
        "int feed(int,int,int,int,int)", "boolean end(int)", "int text(int)", "int fault(int)", "int of(int,int)",
        "int match(int,int,boolean)", "int at(int,int)", "int lift(int,int,int,int)", "int weather(int)", "int book(int,int)",
        "int lies(int,int)", "int meets(int)", "int stable(int)", "int best(int)", "int bares(int,int)",
        "int stir(int,int,boolean)", "int who(int)", "int ask(int)", "int fans(int,int)", "int safe(int,int)",
        "int cut(int,int)", "int rounds(int)", "int comes(int,int)", "int asks()", "int tribe(int)", "int hopes(int)",
        "boolean undo()", "boolean image(boolean)", "int look(int)"};

    private static String told(Method m) {
        StringBuilder s = new StringBuilder(m.getReturnType().getSimpleName()).append(' ').append(m.getName()).append('(');
        Class<?>[] types = m.getParameterTypes();
        for (int i = 0; i < types.length; i++) {
            s.append(i == 0 ? "" : ",").append(types[i].getSimpleName());
        }
        return s.append(')').toString();
    }

    public static void main(String[] args) {
        Set<String> want = new TreeSet<>(Set.of(FACE));
        Set<String> got = new TreeSet<>();
        Set<String> names = new TreeSet<>();
        boolean fine = true;
        for (Method m : SnowRises.class.getDeclaredMethods()) {
            if (Modifier.isPublic(m.getModifiers()) && !Modifier.isStatic(m.getModifiers())) {
                got.add(told(m));
                names.add(m.getName());
            } else if (!Modifier.isPrivate(m.getModifiers()) && !m.isSynthetic()) {
                System.out.println("can be seen: " + m);
                fine = false;
            }
        }
        if (!got.equals(want)) {
            System.out.println("the face is " + got);
            fine = false;
        }
        for (Field f : SnowRises.class.getDeclaredFields()) {
            if (!Modifier.isPrivate(f.getModifiers()) && !f.getName().equals("NONE") && !f.isSynthetic()) {
                System.out.println("can be seen: " + f);
                fine = false;
            }
        }
        for (Constructor<?> c : SnowRises.class.getDeclaredConstructors()) {
            fine &= Modifier.isPublic(c.getModifiers()) && c.getParameterCount() == 0;
        }
        for (Method m : SnowRises.class.getDeclaredMethods()) {
            if (Modifier.isPrivate(m.getModifiers()) && names.contains(m.getName())) {
                System.out.println("has a public one's name: " + m);
                fine = false;
            }
        }
        for (Class<?> c : SnowRises.class.getDeclaredClasses()) {
            fine &= Modifier.isStatic(c.getModifiers()) && !Modifier.isPublic(c.getModifiers());
            for (Method m : c.getDeclaredMethods()) {
                if (names.contains(m.getName())) {
                    System.out.println("has a public one's name: " + m);
                    fine = false;
                }
            }
            int fields = 0;
            for (Field f : c.getDeclaredFields()) {
                fields += Modifier.isStatic(f.getModifiers()) ? 0 : 1;
            }
            if (fields > 20) {
                System.out.println(c + " has " + fields + " fields");
                fine = false;
            }
        }
        int modifiers = SnowRises.class.getModifiers();
        fine &= Modifier.isPublic(modifiers) && Modifier.isFinal(modifiers) && SnowRises.class.getDeclaredClasses().length <= 12;
        System.out.println(fine ? "the face is as the document tells" : "the face is not as the document tells");
        if (!fine) {
            System.exit(1);
        }
    }
}
