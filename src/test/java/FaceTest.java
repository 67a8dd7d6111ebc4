import java.lang.reflect.Constructor;
import java.lang.reflect.Field;
import java.lang.reflect.Method;
import java.lang.reflect.Modifier;
import java.util.Arrays;
import java.util.Set;
import java.util.TreeSet;

/** The public face, and rules 1, 2, 5 and 10 of LANGUAGE.md as far as they can be seen in the class. */
public final class FaceTest {
    private static final Set<String> FACE = Set.of(
            "public static final int BAD_SIZE",
            "public static final int BAD_TIME",
            "public static final int FULL",
            "public static final int NO_JOB",
            "public static final int NOT_YET",
            "public ProcessorSharing()",
            "public int submit(int,int)",
            "public int cancel(int)",
            "public int run(int)",
            "public void clear()",
            "public int now()",
            "public int state(int)",
            "public int had(int)",
            "public int admitted(int)",
            "public int finished(int)",
            "public int served()",
            "public int waiting()");

    public static void main(String[] args) {
        Due due = new Due();
        constantsHaveTheirValues(due);
        classIsPlain(due);
        faceIsTheDocuments(due);
        privateMethodsHaveNamesOfTheirOwn(due);
        fieldsAreWholeNumbersOrArraysOfThem(due);
        fieldsAreFew(due);
        due.end();
    }

    private static void constantsHaveTheirValues(Due due) {
        due.is("BAD_SIZE", ProcessorSharing.BAD_SIZE, -1);
        due.is("BAD_TIME", ProcessorSharing.BAD_TIME, -2);
        due.is("FULL", ProcessorSharing.FULL, -3);
        due.is("NO_JOB", ProcessorSharing.NO_JOB, -4);
        due.is("NOT_YET", ProcessorSharing.NOT_YET, -5);
    }

    private static void classIsPlain(Due due) {
        Class<?> type = ProcessorSharing.class;
        due.is("modifiers", type.getModifiers(), Modifier.PUBLIC | Modifier.FINAL);
        due.is("nested classes", type.getDeclaredClasses().length, 0);
        due.is("interfaces", type.getInterfaces().length, 0);
        due.holds("it extends nothing", type.getSuperclass() == Object.class);
        due.holds("it has no package", type.getPackageName().isEmpty());
    }

    private static void faceIsTheDocuments(Due due) {
        Set<String> found = new TreeSet<>();
        for (Field field : ProcessorSharing.class.getDeclaredFields()) {
            if (!Modifier.isPrivate(field.getModifiers())) {
                found.add(Modifier.toString(field.getModifiers()) + " "
                        + field.getType().getTypeName() + " " + field.getName());
            }
        }
        for (Constructor<?> constructor : ProcessorSharing.class.getDeclaredConstructors()) {
            found.add(constructor.toString());
        }
        for (Method method : ProcessorSharing.class.getDeclaredMethods()) {
            if (!Modifier.isPrivate(method.getModifiers())) {
                found.add(method.toString().replace("ProcessorSharing.", ""));
            }
        }
        for (String member : found) {
            due.holds("the document has " + member, FACE.contains(member));
        }
        for (String member : FACE) {
            due.holds("the class has " + member, found.contains(member));
        }
    }

    private static void privateMethodsHaveNamesOfTheirOwn(Due due) {
        Set<String> publicNames = new TreeSet<>();
        for (Method method : ProcessorSharing.class.getMethods()) {
            publicNames.add(method.getName());
        }
        for (Method method : ProcessorSharing.class.getDeclaredMethods()) {
            if (Modifier.isPrivate(method.getModifiers())) {
                due.holds(method.getName() + " is no public name",
                        !publicNames.contains(method.getName()));
            }
        }
    }

    private static void fieldsAreWholeNumbersOrArraysOfThem(Due due) {
        Set<String> elements =
                Set.of("int", "long", "short", "byte", "char", "boolean");
        for (Field field : ProcessorSharing.class.getDeclaredFields()) {
            String type = field.getType().getTypeName();
            String element = type.endsWith("[]") ? type.substring(0, type.length() - 2) : type;
            due.holds(field.getName() + " is of a type of rule 2", elements.contains(element));
            if (Modifier.isStatic(field.getModifiers())) {
                due.holds(field.getName() + " is a constant of int or long",
                        Modifier.isFinal(field.getModifiers())
                                && Arrays.asList("int", "long").contains(type));
            }
        }
    }

    private static void fieldsAreFew(Due due) {
        long fields = Arrays.stream(ProcessorSharing.class.getDeclaredFields())
                .filter(field -> !Modifier.isStatic(field.getModifiers()))
                .count();
        due.holds("at most forty fields beside the constants", fields <= 40);
    }
}
