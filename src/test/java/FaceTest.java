import java.lang.reflect.Constructor;
import java.lang.reflect.Field;
import java.lang.reflect.Member;
import java.lang.reflect.Method;
import java.lang.reflect.Modifier;
import java.util.ArrayList;
import java.util.List;
import java.util.TreeSet;

/** The public face: what the document lists, and no more (rule 1). */
public final class FaceTest {
    private static final String[] FACE = {
        "int NONE", "int BAD", "int STATE", "int FULL", "long NO", "RegionWords()",
        "int cell(int, int)", "int fill(int, int, int)", "int lay(int)", "int turn(int)", "int begin(int)",
        "int walk(int)", "int feed(int)", "int read()", "int of(int, int)", "int told(int)", "int word(int)",
        "int height(int, int)", "int far(int, int)", "int centre(int)", "int walked(int)", "int winds(int)",
        "int coverings(int)", "int first(int, int)", "int weight(int)", "int barred(int)", "int see(int, int)",
        "long fits()", "long odds(int, int, int, int)", "long mean()", "int event(int, int)", "int after(int)",
        "int book(int, int)", "int looked()", "int judge(int, int)", "int image()", "int undo()", "int count(int)",
        "int tape(int, int, int)", "int item(int, int, long)", "long peek(int, int)",
        "int shift(int, int, int, int, int)"};

    public static void main(String[] args) {
        TreeSet<String> found = new TreeSet<>();
        List<String> wrong = new ArrayList<>();
        Class<?> type = RegionWords.class;
        for (Field field : type.getDeclaredFields()) {
            note(field, field.getType().getSimpleName() + " " + field.getName(), found);
            if (Modifier.isStatic(field.getModifiers()) && !Modifier.isFinal(field.getModifiers())) {
                wrong.add("not final: " + field);
            }
        }
        for (Constructor<?> constructor : type.getDeclaredConstructors()) {
            note(constructor, "RegionWords(" + types(constructor.getParameterTypes()) + ")", found);
        }
        TreeSet<String> open = new TreeSet<>();
        for (Method method : type.getDeclaredMethods()) {
            String name = method.getReturnType().getSimpleName() + " " + method.getName();
            note(method, name + "(" + types(method.getParameterTypes()) + ")", found);
            if (!Modifier.isPrivate(method.getModifiers())) {
                open.add(method.getName());
            }
        }
        for (Class<?> inner : type.getDeclaredClasses()) {
            for (Method method : inner.getDeclaredMethods()) {
                if (open.contains(method.getName()) && Modifier.isPrivate(method.getModifiers())) {
                    wrong.add("bears a public one's name: " + method);
                }
            }
            if (Modifier.isPublic(inner.getModifiers()) || Modifier.isProtected(inner.getModifiers())) {
                wrong.add("public or protected: " + inner);
            }
        }
        TreeSet<String> due = new TreeSet<>(List.of(FACE));
        if (!found.equals(due) || !Modifier.isFinal(type.getModifiers()) || type.getDeclaredClasses().length > 12) {
            wrong.add("the face is " + found);
        }
        wrong.forEach(System.out::println);
        System.out.println("FaceTest: " + found.size() + " members, " + wrong.size() + " wrong");
        if (!wrong.isEmpty()) {
            System.exit(1);
        }
    }

    private static void note(Member member, String text, TreeSet<String> found) {
        if (!Modifier.isPrivate(member.getModifiers()) && !member.isSynthetic()) {
            found.add((Modifier.isPublic(member.getModifiers()) ? "" : "not public ") + text);
        }
    }

    private static String types(Class<?>[] types) {
        List<String> names = new ArrayList<>();
        for (Class<?> type : types) {
            names.add(type.getSimpleName());
        }
        return String.join(", ", names);
    }
}
