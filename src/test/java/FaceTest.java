import java.lang.reflect.Constructor;
import java.lang.reflect.Field;
import java.lang.reflect.Method;
import java.lang.reflect.Modifier;
import java.util.Set;
import java.util.TreeSet;

/** The public face: its constants, its constructor, its methods with their throws clauses, and no other member. */
public final class FaceTest {
    private static final String[] METHODS = {
        "int change(int) IA IS", "int dropChanges()", "int method(int) IA IS", "int setCall(int,int,int) IO IA IS",
        "int stage(int) IO", "int changeAt(int,int,int) IO IA", "int head(int,int) IO IA", "int course(int) IO",
        "boolean isFalse(int,int) IO", "int falseRows(int) IO", "int lead(int,int) IO IA IS", "int dropLeads()",
        "int touch() IS", "int compose(int,int) IO IA IS", "int touches()", "int leads(int) IO",
        "int leadAt(int,int) IO", "int rows(int) IO", "int rowAt(int,int) IO", "int bellAt(int,int,int) IO",
        "boolean isTrue(int) IO", "boolean comesRound(int) IO", "int firstRepeat(int) IO", "int takeOut(int) IO IS",
        "boolean bringIn(int) IO IS", "int mend(int,int) IO IA IS", "int wear(int,int) IO IA", "boolean isIn(int) IO",
        "int setBand(int,int) IO IA", "int plan(int,int) IO IA IS", "int planned(int) IA",
        "int plannedAt(int,int) IA IO", "int rota(int) IA", "int pass() IS", "int today()", "int dropped()",
        "int ring(int,int,int) IO IA IS", "int stand() IS", "boolean isRinging()", "int pull(int,int) IO IA IS",
        "int due(int) IO IS", "int setPatience(int) IA", "int done()", "int delay()", "int late(int) IO",
        "int early(int) IO", "int errors(int) IO", "int wrong()", "int rung()", "int latest()",
    };

    private static final Check CHECK = new Check("FaceTest");

    public static void main(String[] args) {
        constants();
        methods();
        CHECK.same("modifiers of the class", Modifier.PUBLIC | Modifier.FINAL, GrandsireLoft.class.getModifiers());
        Constructor<?>[] constructors = GrandsireLoft.class.getDeclaredConstructors();
        CHECK.same("constructors", 1, constructors.length);
        CHECK.yes("the constructor is public", Modifier.isPublic(constructors[0].getModifiers()));
        CHECK.same("arguments of the constructor", 0, constructors[0].getParameterCount());
        CHECK.end();
    }

    private static void constants() {
        CHECK.same("NONE", -1, GrandsireLoft.NONE);
        CHECK.same("PLAIN", 0, GrandsireLoft.PLAIN);
        CHECK.same("BOB", 1, GrandsireLoft.BOB);
        CHECK.same("SINGLE", 2, GrandsireLoft.SINGLE);
        CHECK.same("ROPE", 0, GrandsireLoft.ROPE);
        CHECK.same("CLAPPER", 1, GrandsireLoft.CLAPPER);
        Set<String> constants = Set.of("NONE", "PLAIN", "BOB", "SINGLE", "ROPE", "CLAPPER");
        for (Field field : GrandsireLoft.class.getDeclaredFields()) {
            boolean isConstant = constants.contains(field.getName());
            int due = isConstant ? Modifier.PUBLIC | Modifier.STATIC | Modifier.FINAL : Modifier.PRIVATE;
            int asked = isConstant ? due : Modifier.PRIVATE;
            CHECK.same("modifiers of " + field.getName(), due, field.getModifiers() & asked);
        }
    }

    private static void methods() {
        Set<String> got = new TreeSet<>();
        Set<String> names = new TreeSet<>();
        for (Method method : GrandsireLoft.class.getDeclaredMethods()) {
            if (Modifier.isPublic(method.getModifiers())) {
                got.add(told(method));
                names.add(method.getName());
            } else if (!method.isSynthetic()) {
                CHECK.yes(method.getName() + " is private", Modifier.isPrivate(method.getModifiers()));
            }
        }
        for (String due : METHODS) {
            CHECK.yes("the face has " + due, got.remove(due));
        }
        CHECK.yes("the face has no more than " + got, got.isEmpty());
        for (Class<?> inside : GrandsireLoft.class.getDeclaredClasses()) {
            for (Method method : inside.getDeclaredMethods()) {
                CHECK.no("a name of the face in " + inside.getName() + ": " + method.getName(),
                        names.contains(method.getName()));
            }
        }
    }

    private static String told(Method method) {
        StringBuilder text = new StringBuilder();
        text.append(method.getReturnType().getSimpleName()).append(' ').append(method.getName()).append('(');
        for (int at = 0; at < method.getParameterCount(); at++) {
            text.append(at == 0 ? "" : ",").append(method.getParameterTypes()[at].getSimpleName());
        }
        text.append(')');
        for (Class<?> thrown : method.getExceptionTypes()) {
            String name = thrown.getSimpleName();
            text.append(' ').append(name.startsWith("Index") ? "IO" : name.startsWith("IllegalA") ? "IA" : "IS");
        }
        return text.toString();
    }
}
