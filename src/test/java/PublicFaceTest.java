import java.lang.reflect.Constructor;
import java.lang.reflect.Field;
import java.lang.reflect.Method;
import java.lang.reflect.Modifier;
import java.util.Set;
import java.util.TreeSet;

/** The section "The public face", and rule 1 of LANGUAGE.md: this face and no other member that can be seen. */
public final class PublicFaceTest {
    private static final String[] FACE = {
        "public static final int NeedleBoard.NONE",
        "public NeedleBoard()",
        "public int NeedleBoard.needle(boolean,long,long)"
            + " throws java.lang.IllegalArgumentException,java.lang.IllegalStateException",
        "public long NeedleBoard.put(int,long)"
            + " throws java.util.NoSuchElementException,java.lang.IllegalArgumentException",
        "public long NeedleBoard.turn(int,long) throws java.util.NoSuchElementException,"
            + "java.lang.IllegalArgumentException,java.lang.IllegalStateException",
        "public long NeedleBoard.damp(int,long)"
            + " throws java.util.NoSuchElementException,java.lang.IllegalArgumentException",
        "public boolean NeedleBoard.pull(int,long)"
            + " throws java.util.NoSuchElementException,java.lang.IllegalArgumentException",
        "public long NeedleBoard.rest(int,int)"
            + " throws java.util.NoSuchElementException,java.lang.IllegalArgumentException",
        "public long NeedleBoard.face(int,int) throws java.util.NoSuchElementException",
        "public long NeedleBoard.read(int,int)"
            + " throws java.util.NoSuchElementException,java.lang.IllegalArgumentException",
        "public long NeedleBoard.between(int,int,int)"
            + " throws java.util.NoSuchElementException,java.lang.IllegalArgumentException",
        "public int NeedleBoard.order(int,int) throws java.util.NoSuchElementException",
        "public void NeedleBoard.back(int) throws java.util.NoSuchElementException",
        "public long NeedleBoard.tally(boolean,int,long) throws java.lang.IllegalArgumentException",
        "public int NeedleBoard.count(int)"
    };

    private static final Check CHECK = new Check();

    public static void main(String[] args) {
        members();
        names();
        classes();
        CHECK.end();
    }

    private static void members() {
        Set<String> seen = new TreeSet<>();
        for (Field field : NeedleBoard.class.getDeclaredFields()) {
            addVisible(seen, field.getModifiers(), field.toString());
        }
        for (Constructor<?> constructor : NeedleBoard.class.getDeclaredConstructors()) {
            addVisible(seen, constructor.getModifiers(), constructor.toString());
        }
        for (Method method : NeedleBoard.class.getDeclaredMethods()) {
            if (!method.isSynthetic()) {
                addVisible(seen, method.getModifiers(), method.toString());
            }
        }
        CHECK.same("the face", seen.toString(), new TreeSet<>(Set.of(FACE)).toString());
    }

    private static void names() {
        Set<String> publicNames = new TreeSet<>();
        Set<String> privateNames = new TreeSet<>();
        for (Method method : NeedleBoard.class.getDeclaredMethods()) {
            Set<String> names = Modifier.isPublic(method.getModifiers()) ? publicNames : privateNames;
            names.add(method.getName());
        }
        privateNames.retainAll(publicNames);
        CHECK.same("names of private methods that public ones bear", privateNames.toString(), "[]");
    }

    private static void classes() {
        CHECK.yes("the class is public and final",
                (NeedleBoard.class.getModifiers() & (Modifier.PUBLIC | Modifier.FINAL))
                        == (Modifier.PUBLIC | Modifier.FINAL));
        for (Class<?> inside : NeedleBoard.class.getDeclaredClasses()) {
            int modifiers = inside.getModifiers();
            CHECK.no(inside + " can be seen", Modifier.isPublic(modifiers) || Modifier.isProtected(modifiers));
            CHECK.yes(inside + " is static", Modifier.isStatic(modifiers));
        }
    }

    private static void addVisible(Set<String> seen, int modifiers, String member) {
        if (!Modifier.isPrivate(modifiers)) {
            seen.add(member);
        }
    }
}
