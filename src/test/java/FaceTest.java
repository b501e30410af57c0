import java.lang.reflect.Constructor;
import java.lang.reflect.Field;
import java.lang.reflect.Method;
import java.lang.reflect.Modifier;
import java.util.ArrayList;
import java.util.Arrays;
import java.util.List;
import java.util.TreeSet;

/** The document's public face, and nothing beside it. */
final class FaceTest {
    private static final Checks c = new Checks("FaceTest");
    private static final String[] FACE = {"sheet(int,int,int)", "set(int,int,int)", "copy(int,int,int,int,int)",
        "drop(int)", "feed(long,int)", "deeds()", "fault()", "told(int,int)", "feast(int,int)", "count(int,int,int)",
        "vow(int,int)", "sick(int,int,int)", "say(int,int,int)", "lines(int,int,int)", "good(int)",
        "join(int,int,int)", "split(int,int)", "house(int,int,int)", "repair(int,int,int)", "empty(int,int,int)",
        "rent(int,int)", "comes(int,int,int)", "fails(int)", "price(int,int)", "spent(int)",
        "vacant(int,int,int,int,int)", "turn(int,int)", "act(int,int,int,int)", "taken(int)", "pension(int,int)",
        "bid(int,int,int)", "sold(int,int)", "dawn(int,int,int)", "day(int)", "kind(int)", "as(int,int)",
        "ask(int,int)", "trace(int)", "all(int)", "status()"};

    public static void main(String[] args) {
        constants();
        methods();
        others();
        c.finish();
    }

    private static void constants() {
        c.due("NONE", ChantryRolls.NONE, -1000000);
        c.due("BAD", ChantryRolls.BAD, -1000001);
        c.due("STATE", ChantryRolls.STATE, -1000002);
        c.due("FULL", ChantryRolls.FULL, -1000003);
    }

    private static void methods() {
        TreeSet<String> left = new TreeSet<>(Arrays.asList(FACE));
        TreeSet<String> names = new TreeSet<>();
        for (String method : FACE) {
            names.add(method.substring(0, method.indexOf('(')));
        }
        for (Method method : ChantryRolls.class.getDeclaredMethods()) {
            List<String> takes = new ArrayList<>();
            for (Class<?> type : method.getParameterTypes()) {
                takes.add(type.getName());
            }
            String told = method.getName() + "(" + String.join(",", takes) + ")";
            if (Modifier.isPublic(method.getModifiers())) {
                c.due(told + " is of the face", left.remove(told) ? 1 : 0, 1);
                c.due(told + " answers an int", method.getReturnType() == int.class ? 1 : 0, 1);
                c.due(told + " is no static one", Modifier.isStatic(method.getModifiers()) ? 1 : 0, 0);
            } else {
                c.due(told + " is private", Modifier.isPrivate(method.getModifiers()) ? 1 : 0, 1);
                c.due(told + " has a name of its own", names.contains(method.getName()) ? 1 : 0, 0);
            }
        }
        c.due("left of the face: " + left, left.size(), 0);
    }

    private static void others() {
        int modifiers = ChantryRolls.class.getModifiers();
        c.due("public and final", Modifier.isPublic(modifiers) && Modifier.isFinal(modifiers) ? 1 : 0, 1);
        c.due("no package", ChantryRolls.class.getPackageName().length(), 0);
        Constructor<?>[] constructors = ChantryRolls.class.getDeclaredConstructors();
        c.due("one constructor", constructors.length, 1);
        c.due("that takes nothing", constructors[0].getParameterCount(), 0);
        c.due("and is public", Modifier.isPublic(constructors[0].getModifiers()) ? 1 : 0, 1);
        int open = 0;
        for (Field field : ChantryRolls.class.getDeclaredFields()) {
            open += Modifier.isPrivate(field.getModifiers()) ? 0 : 1;
        }
        c.due("fields that are not private", open, 4);
    }
}
