import java.lang.reflect.Constructor;
import java.lang.reflect.Field;
import java.lang.reflect.Member;
import java.lang.reflect.Method;
import java.lang.reflect.Modifier;
import java.util.TreeSet;

/** The public face of the document, and those rules of LANGUAGE.md that the class file shows. */
public final class FaceTest {
    private static final String[] FACE = {
        "BAD_ARG int", "FULL int", "TOO_FEW int", "NONE int", "new()",
        "arcs(int,int) int", "mark(int,int) int", "demand(int) int", "undemand() int",
        "push(int) int", "one(int) int", "two(int) int", "discard() void", "depth() int",
        "holds() int", "alike() boolean", "fair() int", "reach(int) int", "steps(int) int",
        "knots() int",
    };

    private static int wrong = 0;

    private static void check(boolean right, String what) {
        if (!right) {
            wrong++;
            System.out.println(what);
        }
    }

    public static void main(String[] args) {
        check(Modifier.isPublic(FairRuns.class.getModifiers()), "the class is not public");
        check(Modifier.isFinal(FairRuns.class.getModifiers()), "the class is not final");
        check(FairRuns.class.getDeclaredClasses().length == 0, "there is a nested class");
        TreeSet<String> face = new TreeSet<>();
        TreeSet<String> publicNames = new TreeSet<>();
        for (Constructor<?> c : FairRuns.class.getDeclaredConstructors()) {
            addToFace(face, c, "new" + parameters(c.getParameterTypes()));
        }
        for (Method m : FairRuns.class.getDeclaredMethods()) {
            addToFace(face, m, m.getName() + parameters(m.getParameterTypes()) + " " + m.getReturnType());
            check(m.getParameterCount() <= 7, "too many parameters: " + m.getName());
            check(publicNames.add(m.getName()), "two methods of one name: " + m.getName());
        }
        int fields = 0;
        for (Field f : FairRuns.class.getDeclaredFields()) {
            addToFace(face, f, f.getName() + " " + f.getType());
            checkField(f);
            fields += Modifier.isStatic(f.getModifiers()) ? 0 : 1;
        }
        check(fields <= 40, "too many fields");
        TreeSet<String> due = new TreeSet<>(java.util.Arrays.asList(FACE));
        check(face.equals(due), "the face is " + face + ", due is " + due);
        System.out.println(wrong == 0 ? "the face is as due" : wrong + " things are not as due");
        if (wrong != 0) {
            System.exit(1);
        }
    }

    private static void addToFace(TreeSet<String> face, Member member, String text) {
        if (Modifier.isPublic(member.getModifiers())) {
            face.add(text);
        } else {
            check(Modifier.isPrivate(member.getModifiers()), "neither public nor private: " + text);
        }
    }

    private static void checkField(Field f) {
        Class<?> type = f.getType();
        boolean isStatic = Modifier.isStatic(f.getModifiers());
        Class<?> item = type.isArray() ? type.getComponentType() : type;
        check(item.isPrimitive() && item != float.class && item != double.class, "type of " + f.getName());
        check(!isStatic || type == int.class || type == long.class, "static " + f.getName());
        check(!isStatic || Modifier.isFinal(f.getModifiers()), "static and not final: " + f.getName());
    }

    private static String parameters(Class<?>[] types) {
        StringBuilder text = new StringBuilder("(");
        for (Class<?> type : types) {
            text.append(text.length() > 1 ? "," : "").append(type);
        }
        return text.append(")").toString();
    }
}
