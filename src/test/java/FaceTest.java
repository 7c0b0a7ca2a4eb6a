import java.lang.reflect.Constructor;
import java.lang.reflect.Field;
import java.lang.reflect.Method;
import java.lang.reflect.Modifier;
import java.util.Arrays;
import java.util.Set;
import java.util.TreeSet;
import java.util.stream.Collectors;

/** The members that can be seen from outside are those of the document, and no private method bears one of their names. */
public final class FaceTest {
    private static final String[] FACE = {"feed int int int int int:int", "winter int:int", "fault:int", "count int:int", "pack int int:int",
        "place int int:int", "person int int:int", "far int int:int", "right int int int:boolean", "days int:int", "pay int int int:int",
        "gather int int:int", "lamp int boolean:boolean", "favour int int boolean:boolean", "undo:int", "way int int int:int",
        "errands int int int:int", "reach int int int:int", "meeting int int int int:int", "asked int int int:int", "lodged int:int",
        "then int int int:int", "packThen int int int:int", "lasts:int", "fairest int:int", "needed int:int", "wood int int:int",
        "edge int int:int", "track int int:int", "forget:void", "suspects:int", "alibi int:int", "look int:int",
        "bargain int int int int:int", "frosts int int int int:int", "winters int int int:int", "open int int:int", "closed:int",
        "breach int int int:int", "firstCold int:int", "firstThin int:int", "paid int:int", "debtor:int", "neighbour int:int",
        "image:void", "restore:boolean"};

    private FaceTest() {
    }

    public static void main(String[] args) {
        Set<String> seen = new TreeSet<>();
        for (Method method : WolfDeeds.class.getDeclaredMethods()) {
            if (!Modifier.isPrivate(method.getModifiers())) {
                seen.add(shown(method));
            }
        }
        check("methods", seen.equals(new TreeSet<>(Arrays.asList(FACE))));
        checkFields();
        Constructor<?>[] made = WolfDeeds.class.getDeclaredConstructors();
        check("constructor", made.length == 1 && made[0].getParameterCount() == 0 && Modifier.isPublic(made[0].getModifiers()));
        check("class", Modifier.isFinal(WolfDeeds.class.getModifiers()) && Modifier.isPublic(WolfDeeds.class.getModifiers()));
        checkNames();
        Told.end();
    }

    private static void check(String what, boolean holds) {
        Told.due("1: the face: " + what, 1, () -> Told.flag(holds));
    }

    private static String shown(Method method) {
        StringBuilder text = new StringBuilder(method.getName());
        for (Class<?> type : method.getParameterTypes()) {
            text.append(' ').append(type);
        }
        return text.append(':').append(method.getReturnType()).toString();
    }

    private static void checkFields() {
        for (Field field : WolfDeeds.class.getDeclaredFields()) {
            boolean isNone = field.getName().equals("NONE") && Modifier.isPublic(field.getModifiers());
            check(field.getName(), isNone || Modifier.isPrivate(field.getModifiers()));
        }
    }

    private static void checkNames() {
        Set<String> face = Arrays.stream(FACE).map(row -> row.split("[ :]")[0]).collect(Collectors.toSet());
        for (Method method : WolfDeeds.class.getDeclaredMethods()) {
            check(method.getName(), Modifier.isPublic(method.getModifiers()) || !face.contains(method.getName()));
        }
        for (Class<?> inside : WolfDeeds.class.getDeclaredClasses()) {
            check(inside.getSimpleName(), Modifier.isStatic(inside.getModifiers()) && Modifier.isPrivate(inside.getModifiers()));
            for (Method method : inside.getDeclaredMethods()) {
                check(inside.getSimpleName() + "." + method.getName(), !face.contains(method.getName()));
            }
        }
    }
}
