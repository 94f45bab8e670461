import java.lang.reflect.Field;
import java.lang.reflect.Method;
import java.lang.reflect.Modifier;
import java.util.Set;
import java.util.TreeSet;

/** The public face of the document, and the rules on members in LANGUAGE.md. */
public final class FaceTest {
    private static final Set<String> FACE = Set.of(
        "public int Lift53.set(int,int)",
        "public int Lift53.analyse()",
        "public int Lift53.synthesise()",
        "public int Lift53.get(int)");

    public static void main(String[] args) {
        classIsPublicAndFinal();
        constructorIsTheOneOfTheDocument();
        methodsAreThoseOfTheDocument();
        fieldsAreHidden();
        Checks.end();
    }

    private static void classIsPublicAndFinal() {
        int modifiers = Lift53.class.getModifiers();
        Checks.holds("public class", Modifier.isPublic(modifiers));
        Checks.holds("final class", Modifier.isFinal(modifiers));
        Checks.holds("no package", Lift53.class.getPackageName().isEmpty());
        Checks.holds("no other class it extends", Lift53.class.getSuperclass() == Object.class);
        Checks.holds("no interface", Lift53.class.getInterfaces().length == 0);
        Checks.holds("no nested class", Lift53.class.getDeclaredClasses().length == 0);
    }

    private static void constructorIsTheOneOfTheDocument() {
        var constructors = Lift53.class.getDeclaredConstructors();
        Checks.due("constructors", constructors.length, 1);
        Checks.holds("public Lift53()", constructors[0].toString().equals("public Lift53()"));
    }

    private static void methodsAreThoseOfTheDocument() {
        Set<String> seen = new TreeSet<>();
        for (Method method : Lift53.class.getDeclaredMethods()) {
            if (!Modifier.isPrivate(method.getModifiers())) {
                seen.add(method.toString());
            }
        }
        Checks.holds("the document's methods and no other: " + seen, seen.equals(FACE));
    }

    private static void fieldsAreHidden() {
        for (Field field : Lift53.class.getDeclaredFields()) {
            Checks.holds("private " + field.getName(), Modifier.isPrivate(field.getModifiers()));
        }
    }
}
