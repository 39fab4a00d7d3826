import java.lang.reflect.Constructor;
import java.lang.reflect.Field;
import java.lang.reflect.Method;
import java.lang.reflect.Modifier;
import java.util.Arrays;
import java.util.List;

/** The face: what the document lists, and no other member that is not private (LANGUAGE.md, rules 1, 2, 5). */
public final class FaceTest {
    private static final Checks CHECKS = new Checks();
    private static final List<String> FACE = List.of("int feed(int,int,int,int,int)", "int text(int)",
            "int fault(int)", "int named(int,int)", "int cell(int,int)", "int ward(int,int)", "int thing(int,int)",
            "long law(int,int,int)", "int rest(int)", "int way(int,int)", "int falls(int,int)", "int beats(int)",
            "boolean vote(int,int)", "boolean net(int,boolean)", "boolean lay(int,int)", "int pour(int,int)",
            "int drain()", "long flood(int,int)", "int walk(int,int)", "int step(int,int,int)",
            "int push(int,int,int)", "int pushed(int,int,int)", "int war(int,int)", "long nets()", "int clock(int)",
            "int stays()", "int stay(int)", "int treaty(int)", "int moves(int,int)", "int note(int,int)",
            "int strike(int)", "boolean known(int)", "int fits()", "int may(int)", "int years(int)",
            "int voted(int,int)", "int tried(int,int,int)", "int undo()", "int keep()", "int back()",
            "int count(int)");

    public static void main(String[] args) {
        int face = Modifier.PUBLIC | Modifier.FINAL;
        CHECKS.due("the class", WardFalls.class.getModifiers(), face);
        methods();
        fields();
        for (Constructor<?> made : WardFalls.class.getDeclaredConstructors()) {
            CHECKS.due(made.toString(), made.getModifiers() == Modifier.PUBLIC && made.getParameterCount() == 0, true);
        }
        for (Class<?> inside : WardFalls.class.getDeclaredClasses()) {
            int modifiers = inside.getModifiers();
            CHECKS.due(inside.toString(), Modifier.isStatic(modifiers) && !Modifier.isPublic(modifiers)
                    && !Modifier.isProtected(modifiers), true);
        }
        CHECKS.end("FaceTest");
    }

    private static void methods() {
        int much = 0;
        for (Method method : WardFalls.class.getDeclaredMethods()) {
            String types = Arrays.toString(method.getParameterTypes()).replaceAll("[\\[\\] ]", "");
            String told = method.getReturnType() + " " + method.getName() + "(" + types + ")";
            if (Modifier.isPublic(method.getModifiers())) {
                CHECKS.due(told, FACE.contains(told) && !Modifier.isStatic(method.getModifiers()), true);
                much++;
            } else {
                CHECKS.due(told, Modifier.isPrivate(method.getModifiers()), true);
                boolean named = FACE.stream().anyMatch(one -> one.contains(" " + method.getName() + "("));
                CHECKS.due(told + " bears a public name", named, false);
            }
        }
        CHECKS.due("all of it", much, FACE.size());
    }

    private static void fields() {
        for (Field field : WardFalls.class.getDeclaredFields()) {
            boolean constant = field.getName().equals("NONE");
            CHECKS.due(field.toString(), Modifier.isPublic(field.getModifiers()), constant);
            CHECKS.due(field.toString(), Modifier.isPrivate(field.getModifiers()), !constant);
            boolean loose = Modifier.isStatic(field.getModifiers()) && !Modifier.isFinal(field.getModifiers());
            CHECKS.due(field.toString(), loose, false);
        }
    }
}
