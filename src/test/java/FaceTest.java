import java.lang.reflect.Constructor;
import java.lang.reflect.Executable;
import java.lang.reflect.Field;
import java.lang.reflect.Method;
import java.lang.reflect.Modifier;
import java.util.ArrayList;
import java.util.Arrays;
import java.util.Collections;
import java.util.List;

/** The public face of the class: what the document's code block has, and nothing else. */
public final class FaceTest {
    private static final List<String> FACE = List.of(
            "public FilterReader()",
            "public int FilterReader.end(int) throws java.lang.IllegalArgumentException",
            "public int FilterReader.feed(int,int,int,int,int) throws java.lang.IndexOutOfBoundsException",
            "public int FilterReader.many(int) throws java.lang.IllegalArgumentException",
            "public int FilterReader.place()",
            "public int FilterReader.read() throws java.lang.UnsupportedOperationException",
            "public int FilterReader.taped()");

    public static void main(String[] args) {
        theClass();
        theFace();
        nothingElse();
        classesInside();
        Check.finish();
    }

    /** "public final class FilterReader". */
    private static void theClass() {
        int modifiers = FilterReader.class.getModifiers();
        Check.isTrue("the class is public", Modifier.isPublic(modifiers));
        Check.isTrue("the class is final", Modifier.isFinal(modifiers));
        Check.isTrue("it has no package", FilterReader.class.getPackageName().isEmpty());
        Check.isTrue("it extends nothing", FilterReader.class.getSuperclass() == Object.class);
        Check.equal("it implements nothing", FilterReader.class.getInterfaces().length, 0);
    }

    /** The constructor and the methods, with what they take, answer and throw. */
    private static void theFace() {
        List<String> found = new ArrayList<>();
        for (Executable member : members()) {
            if (!Modifier.isPrivate(member.getModifiers())) {
                found.add(member.toString());
            }
        }
        Collections.sort(found);
        Check.isTrue("the face is " + found, found.equals(FACE));
    }

    /** No field can be seen; no private method bears the name of a public one. */
    private static void nothingElse() {
        for (Field field : FilterReader.class.getDeclaredFields()) {
            Check.isTrue(field + " is private",
                    field.isSynthetic() || Modifier.isPrivate(field.getModifiers()));
        }
        List<String> names = List.of("feed", "end", "read", "many", "place", "taped");
        for (Class<?> inside : FilterReader.class.getDeclaredClasses()) {
            for (Method method : inside.getDeclaredMethods()) {
                Check.isTrue(method + " has a name of its own", !names.contains(method.getName()));
            }
        }
    }

    private static void classesInside() {
        for (Class<?> inside : FilterReader.class.getDeclaredClasses()) {
            int modifiers = inside.getModifiers();
            Check.isTrue(inside + " is not to be seen",
                    !Modifier.isPublic(modifiers) && !Modifier.isProtected(modifiers));
            Check.isTrue(inside + " is static", Modifier.isStatic(modifiers));
        }
    }

    private static List<Executable> members() {
        List<Executable> members = new ArrayList<>();
        for (Constructor<?> constructor : FilterReader.class.getDeclaredConstructors()) {
            members.add(constructor);
        }
        members.addAll(Arrays.asList(FilterReader.class.getDeclaredMethods()));
        members.removeIf(Executable::isSynthetic);
        return members;
    }
}
