import java.lang.reflect.Constructor;
import java.lang.reflect.Field;
import java.lang.reflect.Member;
import java.lang.reflect.Method;
import java.lang.reflect.Modifier;
import java.util.Set;
import java.util.TreeSet;

// The public face is just the one of the document, and the fields keep to the rules of LANGUAGE.md that can be seen from outside.
public final class FaceTest {
    private static int wrong = 0;

    private static void due(String what, Object got, Object want) {
        if (!got.equals(want)) {
            wrong++;
            System.out.println(what + " is " + got + ", due is " + want);
        }
    }

    private static boolean isPrivate(Member member) {
        return Modifier.isPrivate(member.getModifiers());
    }

    private static boolean isPlain(Class<?> type) {
        Class<?> inner = type.isArray() ? type.getComponentType() : type;
        return inner.isPrimitive() && inner != float.class && inner != double.class;
    }

    private static void face() {
        Set<String> got = new TreeSet<>();
        Set<String> privateNames = new TreeSet<>();
        Set<String> publicNames = new TreeSet<>();
        for (Field field : CutTree.class.getDeclaredFields()) {
            if (!isPrivate(field)) {
                got.add(field.toString());
            }
        }
        for (Constructor<?> constructor : CutTree.class.getDeclaredConstructors()) {
            if (!isPrivate(constructor)) {
                got.add(constructor.toString());
            }
        }
        for (Method method : CutTree.class.getDeclaredMethods()) {
            (isPrivate(method) ? privateNames : publicNames).add(method.getName());
            if (!isPrivate(method)) {
                got.add(method.toString());
            }
        }
        due("the public face", got, new TreeSet<>(Set.of(
            "public static final int CutTree.BAD",
            "public CutTree(int)",
            "public boolean CutTree.connect(int,int,int)",
            "public int CutTree.capacity(int,int)",
            "public int CutTree.link(int,int)",
            "public int CutTree.side(int,int)",
            "public int CutTree.smallest()",
            "public int CutTree.couples(int)",
            "public int CutTree.groups(int)",
            "public int CutTree.group(int,int)",
            "public int CutTree.weight(int)",
            "public int CutTree.total()",
            "public int CutTree.cap(int)")));
        privateNames.retainAll(publicNames);
        due("the set of private methods with a public name", privateNames, Set.of());
        due("the class's modifiers", Modifier.toString(CutTree.class.getModifiers()), "public final");
        due("the number of nested classes", CutTree.class.getDeclaredClasses().length, 0);
    }

    private static void fields() {
        for (Field field : CutTree.class.getDeclaredFields()) {
            due("the plainness of " + field, isPlain(field.getType()), true);
            if (Modifier.isStatic(field.getModifiers())) {
                due("static and final of " + field, Modifier.isFinal(field.getModifiers()), true);
                due("the array of static " + field, field.getType().isArray(), false);
            }
        }
    }

    public static void main(String[] args) {
        face();
        fields();
        System.out.println(wrong == 0 ? "the face is as due" : wrong + " things are not as due");
        if (wrong != 0) {
            System.exit(1);
        }
    }
}
