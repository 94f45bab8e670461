import java.lang.reflect.Field;
import java.lang.reflect.Method;
import java.lang.reflect.Modifier;
import java.util.Set;
import java.util.TreeSet;

/** The public face of the document, and the rules on members in LANGUAGE.md. */
public final class FaceTest {
    private static final Set<String> FACE = Set.of(
        "public int Lift53.set(int,int)",
        "public int Lift53.analyse()",
        "public int Lift53.synthesise()",
        "public int Lift53.get(int)");

    public static void main(String[] args) {
        classIsPublicAndFinal();
        constructorTakesNoArguments();
        methodsAreThoseOfTheDocument();
        privateMethodsHaveOtherNames();
        thereAreNoPublicConstants();
        Checks.end();
    }

    private static void classIsPublicAndFinal() {
        Checks.sentence("public final class Lift53");
        int modifiers = Lift53.class.getModifiers();
        Checks.holds("public class", Modifier.isPublic(modifiers));
        Checks.holds("final class", Modifier.isFinal(modifiers));
        Checks.holds("no package", Lift53.class.getPackageName().isEmpty());
        Checks.holds("no other class it extends", Lift53.class.getSuperclass() == Object.class);
        Checks.holds("no interface", Lift53.class.getInterfaces().length == 0);
        Checks.holds("no nested class", Lift53.class.getDeclaredClasses().length == 0);
    }

    private static void constructorTakesNoArguments() {
        Checks.sentence("Lift53() takes no arguments and never throws. (the declaration)");
        var constructors = Lift53.class.getDeclaredConstructors();
        Checks.holds("one constructor", constructors.length == 1);
        Checks.holds("public Lift53()", constructors[0].toString().equals("public Lift53()"));
    }

    private static void methodsAreThoseOfTheDocument() {
        Checks.sentence("The public face");
        Set<String> seen = new TreeSet<>();
        for (Method method : Lift53.class.getDeclaredMethods()) {
            if (!Modifier.isPrivate(method.getModifiers())) {
                seen.add(method.toString());
            }
        }
        Checks.holds("the document's methods and no other: " + seen, seen.equals(FACE));
    }

    private static void privateMethodsHaveOtherNames() {
        Checks.sentence("No private method bears the name of a public one. (LANGUAGE.md, rule 1)");
        Set<String> names = Set.of("set", "analyse", "synthesise", "get");
        for (Method method : Lift53.class.getDeclaredMethods()) {
            if (Modifier.isPrivate(method.getModifiers())) {
                Checks.holds("another name than " + method.getName(), !names.contains(method.getName()));
            }
        }
    }

    private static void thereAreNoPublicConstants() {
        Checks.sentence("There are no public constants.");
        for (Field field : Lift53.class.getDeclaredFields()) {
            Checks.holds("private " + field.getName(), Modifier.isPrivate(field.getModifiers()));
        }
    }
}
