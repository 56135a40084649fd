import java.lang.reflect.Constructor;
import java.lang.reflect.Field;
import java.lang.reflect.Member;
import java.lang.reflect.Method;
import java.lang.reflect.Modifier;
import java.util.ArrayList;
import java.util.Collections;
import java.util.List;

/** Section 'The public face': the members named there, with these types and values, and no other ones to be seen. */
public final class FaceTest {
    private static final String[] METHODS = {"int type(int)", "int four(int)", "int load()", "int count(int)",
        "int atom(int,int)", "int judge(int)", "int holds(int)", "int sign(int,int)", "long root(int,int)",
        "int times(int,int)", "long exact(int,int)", "int common(int)", "long simple(int,int)", "int cellOf(int,int)",
        "int signAt(int,int,int)"};

    public static void main(String[] args) throws IllegalAccessException {
        theClass();
        constants();
        constructor();
        methods();
        nothingElseIsSeen();
        Report.end();
    }

    private static void same(String sentence, List<String> got, List<String> want) {
        List<String> first = new ArrayList<>(got);
        List<String> second = new ArrayList<>(want);
        Collections.sort(first);
        Collections.sort(second);
        Report.due(sentence + ": " + first + ", due is " + second + ", whether they are the same",
            first.equals(second) ? 1 : 0, 1);
    }

    private static boolean isSeen(int modifiers) {
        return !Modifier.isPrivate(modifiers);
    }

    private static void theClass() {
        Class<?> face = RootJudge.class;
        same("its modifiers", List.of(Modifier.toString(face.getModifiers())), List.of("public final"));
        same("its name", List.of(face.getName()), List.of("RootJudge"));
        Report.due("it extends nothing", face.getSuperclass() == Object.class ? 1 : 0, 1);
        Report.due("it implements nothing", face.getInterfaces().length, 0);
        Report.due("it has no type parameters", face.getTypeParameters().length, 0);
    }

    private static void constants() throws IllegalAccessException {
        List<String> seen = new ArrayList<>();
        for (Field field : RootJudge.class.getDeclaredFields()) {
            if (isSeen(field.getModifiers())) {
                String kind = Modifier.toString(field.getModifiers()) + " " + field.getType().getName();
                seen.add(kind + " " + field.getName() + " = " + field.getInt(null));
            }
        }
        same("the constants", seen, List.of("public static final int BAD = -1", "public static final int NONE = -2",
            "public static final int GREAT = -3"));
    }

    private static void constructor() {
        Constructor<?>[] all = RootJudge.class.getDeclaredConstructors();
        Report.due("constructors", all.length, 1);
        for (Constructor<?> one : all) {
            Report.due("it is public", Modifier.isPublic(one.getModifiers()) ? 1 : 0, 1);
            Report.due("its parameters", one.getParameterCount(), 0);
            Report.due("what it declares to throw", one.getExceptionTypes().length, 0);
        }
    }

    private static String shape(Method method) {
        StringBuilder out = new StringBuilder(method.getReturnType().getName()).append(' ').append(method.getName());
        out.append('(');
        for (Class<?> type : method.getParameterTypes()) {
            out.append(out.charAt(out.length() - 1) == '(' ? "" : ",").append(type.getName());
        }
        return out.append(')').toString();
    }

    private static void methods() {
        List<String> seen = new ArrayList<>();
        for (Method method : RootJudge.class.getDeclaredMethods()) {
            if (isSeen(method.getModifiers()) && !method.isSynthetic()) {
                seen.add(shape(method));
                same("modifiers of " + method.getName(), List.of(Modifier.toString(method.getModifiers())),
                    List.of("public"));
                Report.due("what " + method.getName() + " declares to throw", method.getExceptionTypes().length, 0);
            }
        }
        same("the methods", seen, List.of(METHODS));
    }

    /** What a caller can reach, Object's own members aside, is the face alone. */
    private static void nothingElseIsSeen() {
        List<String> seen = new ArrayList<>();
        List<Member> reachable = new ArrayList<>(List.of(RootJudge.class.getMethods()));
        reachable.addAll(List.of(RootJudge.class.getFields()));
        for (Member member : reachable) {
            if (member.getDeclaringClass() != Object.class) {
                seen.add(member.getName());
            }
        }
        List<String> want = new ArrayList<>(List.of("BAD", "NONE", "GREAT"));
        for (String method : METHODS) {
            want.add(method.substring(method.indexOf(' ') + 1, method.indexOf('(')));
        }
        same("all that can be reached", seen, want);
        for (Class<?> inside : RootJudge.class.getDeclaredClasses()) {
            int modifiers = inside.getModifiers();
            Report.due("whether " + inside + " is public or protected",
                Modifier.isPublic(modifiers) || Modifier.isProtected(modifiers) ? 1 : 0, 0);
            Report.due("whether " + inside + " is static", Modifier.isStatic(modifiers) ? 1 : 0, 1);
        }
    }
}
