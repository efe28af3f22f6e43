import java.lang.reflect.Constructor;
import java.lang.reflect.Field;
import java.lang.reflect.Method;
import java.lang.reflect.Modifier;
import java.util.Arrays;
import java.util.Set;
import java.util.TreeSet;

/** The public face: the constructor, methods and constant of the document, and no others. */
public final class FaceTest {
    private static final String[] DUE = {
        "public static final int NONE",
        "public FormSheet(int)",
        "public boolean write(long)",
        "public int add() throws IllegalArgumentException,IllegalStateException",
        "public int position()",
        "public int close() throws IllegalArgumentException,IllegalStateException",
        "public void clear()",
        "public int rows(int)",
        "public int set(int,int,long)",
        "public long get(int,int)",
        "public int fault(int,int)",
        "public int message(int)",
        "public int place(int,int)",
        "public int pages()",
        "public int line(int,int)",
        "public int count(int)"
    };

    public static void main(String[] args) {
        Set<String> due = new TreeSet<>(Arrays.asList(DUE));
        Set<String> found = new TreeSet<>();
        for (Field field : FormSheet.class.getDeclaredFields()) {
            note(found, field.getModifiers(), field.toString(), "FormSheet.");
        }
        for (Constructor<?> constructor : FormSheet.class.getDeclaredConstructors()) {
            note(found, constructor.getModifiers(), constructor.toString(), "-");
        }
        for (Method method : FormSheet.class.getDeclaredMethods()) {
            note(found, method.getModifiers(), method.toString(), "FormSheet.");
        }
        for (String member : due) {
            Due.same("the face has " + member, found.contains(member), true);
        }
        for (String member : found) {
            Due.same("the face may have " + member, due.contains(member), true);
        }
        Due.same("the class is public and final", FormSheet.class.getModifiers(), Modifier.PUBLIC | Modifier.FINAL);
        Due.same("NONE", FormSheet.NONE, -1);
        for (Class<?> inside : FormSheet.class.getDeclaredClasses()) {
            Due.same(inside + " is static", Modifier.isStatic(inside.getModifiers()), true);
        }
        Due.end();
    }

    private static void note(Set<String> found, int modifiers, String member, String owner) {
        if (!Modifier.isPrivate(modifiers)) {
            found.add(member.replace(owner, "").replace("java.lang.", ""));
        }
    }
}
