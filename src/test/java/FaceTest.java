import java.lang.reflect.Constructor;
import java.lang.reflect.Field;
import java.lang.reflect.Method;
import java.lang.reflect.Modifier;
import java.util.Set;
import java.util.TreeSet;

/** The class has the document's public face and nothing more (LANGUAGE.md, rule 1). */
public final class FaceTest {
    private static final Set<String> FACE = Set.of(
        "NONE -1", "FULL -2", "new(int)", "int letter(int)", "int clear()", "int invert()", "int at(int)",
        "int take(int,int)", "int generate(int)", "int drop(int)", "int conjugate(int,int)",
        "int meet(int,int,int)", "int join(int,int,int)", "boolean member(int)", "int trace(int)",
        "int written(int,int)", "int length(int,int)", "int basis(int,int,int)", "int target(int,int,int)",
        "int figure(int,int)", "boolean contains(int,int)", "boolean normal(int)");

    public static void main(String[] args) throws IllegalAccessException {
        Set<String> found = new TreeSet<>();
        boolean wrong = !Modifier.isPublic(FoldedGroups.class.getModifiers())
            || !Modifier.isFinal(FoldedGroups.class.getModifiers());
        for (Field field : FoldedGroups.class.getDeclaredFields()) {
            if (!Modifier.isPrivate(field.getModifiers())) {
                found.add(field.getName() + " " + field.getInt(null));
            }
        }
        for (Constructor<?> made : FoldedGroups.class.getDeclaredConstructors()) {
            found.add("new(" + types(made.getParameterTypes()) + ")");
        }
        for (Method method : FoldedGroups.class.getDeclaredMethods()) {
            if (!Modifier.isPrivate(method.getModifiers())) {
                found.add(method.getReturnType() + " " + method.getName()
                    + "(" + types(method.getParameterTypes()) + ")");
            }
        }
        for (Method method : FoldedGroups.class.getDeclaredMethods()) {
            boolean hidden = Modifier.isPrivate(method.getModifiers());
            if (hidden && FACE.stream().anyMatch(face -> face.contains(" " + method.getName() + "("))) {
                System.out.println("a private method bears a public name: " + method.getName());
                wrong = true;
            }
        }
        for (Class<?> inside : FoldedGroups.class.getDeclaredClasses()) {
            if (Modifier.isPublic(inside.getModifiers()) || !Modifier.isStatic(inside.getModifiers())) {
                System.out.println("a class inside is public or not static: " + inside.getName());
                wrong = true;
            }
        }
        if (wrong || !found.equals(FACE)) {
            System.out.println("the face is " + found + ", due is " + new TreeSet<>(FACE));
            System.exit(1);
        }
        System.out.println("the face is as due");
    }

    private static String types(Class<?>[] types) {
        StringBuilder text = new StringBuilder();
        for (Class<?> type : types) {
            text.append(text.length() == 0 ? "" : ",").append(type);
        }
        return text.toString();
    }
}
