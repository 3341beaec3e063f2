import java.lang.reflect.Field;
import java.lang.reflect.Member;
import java.lang.reflect.Method;
import java.lang.reflect.Modifier;
import java.util.ArrayList;
import java.util.HashSet;
import java.util.List;
import java.util.Set;
import java.util.TreeSet;

/** The class has the face of the document and no more, and keeps to the rules of LANGUAGE.md that a compiled class shows. */
public final class FaceTest {
    private static int wrong = 0;

    public static void main(String[] args) {
        Class<?> c = CachedMemory.class;
        check(Modifier.isPublic(c.getModifiers()) && Modifier.isFinal(c.getModifiers()), "the class is public and final");
        check(c.getSuperclass() == Object.class && c.getInterfaces().length == 0, "the class extends and implements nothing");
        check(c.getDeclaredClasses().length == 0, "no nested class");
        checkFace(c);
        checkMethods(c);
        checkFields(c);
        System.out.println(wrong == 0 ? "the face is as due" : wrong + " things are not as due");
        if (wrong != 0) {
            System.exit(1);
        }
    }

    private static void check(boolean holds, String what) {
        if (!holds) {
            wrong++;
            System.out.println("does not hold: " + what);
        }
    }

    private static void checkFace(Class<?> c) {
        Set<String> due = new TreeSet<>(List.of(
            "public static final int CachedMemory.BAD",
            "public static final int CachedMemory.NO_PAGE",
            "public static final int CachedMemory.READ_ONLY",
            "public static final int CachedMemory.OK",
            "public CachedMemory(int,int)",
            "public int CachedMemory.enter(int)",
            "public int CachedMemory.map(int,int,int,boolean)",
            "public int CachedMemory.unmap(int,int)",
            "public int CachedMemory.protect(int)",
            "public int CachedMemory.load(int)",
            "public int CachedMemory.last()",
            "public int CachedMemory.store(int,int)",
            "public int CachedMemory.add(int,int)",
            "public int CachedMemory.deviceRead(int)",
            "public int CachedMemory.deviceWrite(int,int)",
            "public int CachedMemory.deviceCopy(int,int,int)",
            "public int CachedMemory.translate(int)"));
        List<Member> members = new ArrayList<>();
        members.addAll(List.of(c.getDeclaredFields()));
        members.addAll(List.of(c.getDeclaredConstructors()));
        members.addAll(List.of(c.getDeclaredMethods()));
        Set<String> seen = new TreeSet<>();
        for (Member m : members) {
            if (!Modifier.isPrivate(m.getModifiers())) {
                seen.add(m.toString());
            }
        }
        check(seen.equals(due), "the face is " + due + " but " + seen + " was found");
    }

    private static void checkMethods(Class<?> c) {
        Set<String> names = new HashSet<>();
        for (Method m : c.getDeclaredMethods()) {
            check(names.add(m.getName()), "one method alone bears the name " + m.getName());
            check(!m.isSynthetic(), m + " is no lambda");
            check(m.getParameterCount() <= 7, m + " takes at most seven parameters");
            check(m.getReturnType().isPrimitive(), m + " answers a number, a boolean or nothing");
            for (Class<?> t : m.getParameterTypes()) {
                check(isAllowed(t), m + " takes allowed types");
            }
        }
    }

    private static void checkFields(Class<?> c) {
        int fields = 0;
        for (Field f : c.getDeclaredFields()) {
            check(isAllowed(f.getType()), f + " has an allowed type");
            if (Modifier.isStatic(f.getModifiers())) {
                boolean number = f.getType() == int.class || f.getType() == long.class;
                check(number && Modifier.isFinal(f.getModifiers()), f + " is a constant of int or long");
            } else {
                fields++;
            }
        }
        check(fields <= 40, "at most forty fields beside the constants");
    }

    private static boolean isAllowed(Class<?> type) {
        Class<?> element = type.isArray() ? type.getComponentType() : type;
        return element.isPrimitive() && element != float.class && element != double.class;
    }
}
