import java.lang.reflect.Field;
import java.lang.reflect.Member;
import java.lang.reflect.Method;
import java.lang.reflect.Modifier;
import java.util.Arrays;
import java.util.TreeSet;

/** The class has the public face of the document, and nothing else that can be seen from outside. */
public final class ReteEngineFace {
    private static final String[] FACE = {
        "public ReteEngine()",
        "public static final int ReteEngine.NONE",
        "public static final int ReteEngine.FULL",
        "public int ReteEngine.condition(int,int)",
        "public int ReteEngine.drop(int)",
        "public int ReteEngine.add(int,int,int)",
        "public boolean ReteEngine.remove(int)",
        "public int ReteEngine.facts()",
        "public int ReteEngine.matches(int)",
        "public int ReteEngine.match(int,int)",
        "public int ReteEngine.ready()",
        "public int ReteEngine.uses(int)",
        "public int ReteEngine.fitting(int,int)",
        "public int ReteEngine.partial(int,int)",
        "public int ReteEngine.effect(int,int,int,int)",
    };

    private static int wrong = 0;

    public static void main(String[] args) {
        Class<ReteEngine> type = ReteEngine.class;
        TreeSet<String> seen = new TreeSet<>();
        TreeSet<String> publicNames = new TreeSet<>();
        collect(type.getDeclaredConstructors(), seen);
        collect(type.getDeclaredFields(), seen);
        collect(type.getDeclaredMethods(), seen);
        for (Method method : type.getDeclaredMethods()) {
            if (Modifier.isPublic(method.getModifiers())) {
                publicNames.add(method.getName());
            }
        }
        check("the face is the document's, not " + seen, seen.equals(new TreeSet<>(Arrays.asList(FACE))));
        check("the class is public and final",
            Modifier.isPublic(type.getModifiers()) && Modifier.isFinal(type.getModifiers()));
        check("the class extends nothing",
            type.getSuperclass() == Object.class && type.getInterfaces().length == 0);
        check("no nested class", type.getDeclaredClasses().length == 0);
        for (Method method : type.getDeclaredMethods()) {
            check("no private method bears a public name: " + method,
                !Modifier.isPrivate(method.getModifiers()) || !publicNames.contains(method.getName()));
        }
        for (Field field : type.getDeclaredFields()) {
            check("a static field is a constant: " + field,
                !Modifier.isStatic(field.getModifiers()) || isConstant(field));
        }
        System.out.println(wrong == 0 ? "the face is as due" : wrong + " checks of the face fail");
        if (wrong != 0) {
            System.exit(1);
        }
    }

    private static void collect(Member[] members, TreeSet<String> seen) {
        for (Member member : members) {
            if (!Modifier.isPrivate(member.getModifiers())) {
                seen.add(member.toString());
            }
        }
    }

    private static boolean isConstant(Field field) {
        return Modifier.isFinal(field.getModifiers())
            && (field.getType() == int.class || field.getType() == long.class);
    }

    private static void check(String what, boolean holds) {
        if (!holds) {
            wrong++;
            System.out.println("does not hold: " + what);
        }
    }
}
