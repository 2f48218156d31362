import java.lang.reflect.Constructor;
import java.lang.reflect.Field;
import java.lang.reflect.Method;
import java.lang.reflect.Modifier;
import java.util.Arrays;
import java.util.TreeSet;

/** The public face: just the constants, the constructor and the methods of the document. */
public final class FaceTest {
    public static void main(String[] args) {
        Check.due("BAD_VERTEX", GlobalMinCut.BAD_VERTEX, -1);
        Check.due("BAD_WEIGHT", GlobalMinCut.BAD_WEIGHT, -2);
        Check.due("NONE", GlobalMinCut.NONE, -3);

        TreeSet<String> want = new TreeSet<>(Arrays.asList(
            "public final class GlobalMinCut",
            "public static final int GlobalMinCut.BAD_VERTEX",
            "public static final int GlobalMinCut.BAD_WEIGHT",
            "public static final int GlobalMinCut.NONE",
            "public GlobalMinCut(int)",
            "public int GlobalMinCut.weight(int,int,int)",
            "public int GlobalMinCut.change(int,int,int)",
            "public int GlobalMinCut.glue(int,int,boolean)",
            "public int GlobalMinCut.least()",
            "public int GlobalMinCut.smallest()",
            "public int GlobalMinCut.between(int,int)",
            "public int GlobalMinCut.value(int)",
            "public int GlobalMinCut.separated()",
            "public int GlobalMinCut.without(int)"));
        TreeSet<String> got = visibleMembers();
        if (!got.equals(want)) {
            System.out.println("the face is " + got);
        }
        Check.due("the face is the document's", got.equals(want) ? 1 : 0, 1);
        Check.due("classes inside it", GlobalMinCut.class.getDeclaredClasses().length, 0);
        Check.due("interfaces of it", GlobalMinCut.class.getInterfaces().length, 0);
        Check.due("its parent is Object", GlobalMinCut.class.getSuperclass() == Object.class ? 1 : 0, 1);
        noNameIsUsedTwice();
        Check.end();
    }

    /** Rule 1 of LANGUAGE.md: no private method bears the name of a public one. */
    private static void noNameIsUsedTwice() {
        TreeSet<String> names = new TreeSet<>();
        for (Method method : GlobalMinCut.class.getDeclaredMethods()) {
            Check.due("methods of the name " + method.getName(), names.add(method.getName()) ? 1 : 2, 1);
        }
    }

    private static TreeSet<String> visibleMembers() {
        TreeSet<String> members = new TreeSet<>();
        members.add(GlobalMinCut.class.toGenericString());
        for (Field field : GlobalMinCut.class.getDeclaredFields()) {
            addUnlessPrivate(members, field.getModifiers(), field.toString());
        }
        for (Constructor<?> constructor : GlobalMinCut.class.getDeclaredConstructors()) {
            addUnlessPrivate(members, constructor.getModifiers(), constructor.toString());
        }
        for (Method method : GlobalMinCut.class.getDeclaredMethods()) {
            addUnlessPrivate(members, method.getModifiers(), method.toString());
        }
        return members;
    }

    private static void addUnlessPrivate(TreeSet<String> members, int modifiers, String text) {
        if (!Modifier.isPrivate(modifiers)) {
            members.add(text);
        }
    }
}
