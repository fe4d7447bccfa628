import java.lang.reflect.Constructor;
import java.lang.reflect.Field;
import java.lang.reflect.Method;
import java.lang.reflect.Modifier;
import java.util.Set;
import java.util.TreeSet;

/** The public face is that of the document, and nothing else can be seen from outside. */
public final class FaceTest {
    private static final Set<String> METHODS = Set.of(
            "depth()", "atMost(int,int,int,int)", "congruent(int,int,int)", "connect(int)",
            "exists(int)", "forall(int)", "exchange(int,int)", "mirror(int)", "copy(int)", "drop()",
            "holds(int,int)", "count(int)", "next(int,int)", "same(int,int)", "implied(int,int)",
            "depends(int,int)", "values(int,int)");
    private static final Set<String> CONSTANTS = Set.of("NOT", "AND", "OR", "XOR", "IMPLIES");

    private static int wrong = 0;

    public static void main(String[] args) {
        classIsPlain();
        constructorIsThere();
        methodsAreThoseOfTheDocument();
        fieldsAreConstantsOrPrivate();
        constantsHaveTheirValues();
        System.out.println(wrong == 0 ? "the face is as due" : wrong + " faults in the face");
        if (wrong != 0) {
            System.exit(1);
        }
    }

    private static void expect(boolean good, String fault) {
        if (!good) {
            wrong++;
            System.out.println(fault);
        }
    }

    private static void classIsPlain() {
        int modifiers = PresburgerAuto.class.getModifiers();
        expect(Modifier.isPublic(modifiers) && Modifier.isFinal(modifiers), "not a public final class");
        expect(PresburgerAuto.class.getDeclaredClasses().length == 0, "there is a nested class");
        expect(PresburgerAuto.class.getSuperclass() == Object.class, "there is a class above it");
        expect(PresburgerAuto.class.getInterfaces().length == 0, "there is an interface above it");
    }

    private static void constructorIsThere() {
        Constructor<?>[] constructors = PresburgerAuto.class.getDeclaredConstructors();
        expect(constructors.length == 1, "there is not just one constructor");
        expect(constructors[0].getParameterCount() == 0, "the constructor takes arguments");
        expect(Modifier.isPublic(constructors[0].getModifiers()), "the constructor is not public");
    }

    private static void methodsAreThoseOfTheDocument() {
        Set<String> seen = new TreeSet<>();
        Set<String> publicNames = new TreeSet<>();
        for (String face : METHODS) {
            publicNames.add(face.substring(0, face.indexOf('(')));
        }
        for (Method method : PresburgerAuto.class.getDeclaredMethods()) {
            if (Modifier.isPrivate(method.getModifiers())) {
                expect(!publicNames.contains(method.getName()), "a private " + method.getName());
                continue;
            }
            seen.add(faceOf(method));
            expect(Modifier.isPublic(method.getModifiers()), method.getName() + " is not public");
            expect(!Modifier.isStatic(method.getModifiers()), method.getName() + " is static");
            expect(method.getReturnType() == int.class, method.getName() + " does not answer an int");
        }
        expect(seen.equals(METHODS), "the methods are " + seen);
    }

    private static String faceOf(Method method) {
        StringBuilder face = new StringBuilder(method.getName()).append('(');
        String between = "";
        for (Class<?> type : method.getParameterTypes()) {
            face.append(between).append(type.getName());
            between = ",";
        }
        return face.append(')').toString();
    }

    private static void fieldsAreConstantsOrPrivate() {
        Set<String> seen = new TreeSet<>();
        for (Field field : PresburgerAuto.class.getDeclaredFields()) {
            int modifiers = field.getModifiers();
            if (Modifier.isStatic(modifiers)) {
                expect(Modifier.isFinal(modifiers), field.getName() + " is static and not final");
                expect(field.getType() == int.class || field.getType() == long.class,
                        field.getName() + " is static and neither int nor long");
            }
            if (!Modifier.isPrivate(modifiers)) {
                seen.add(field.getName());
                expect(Modifier.isPublic(modifiers) && Modifier.isStatic(modifiers)
                        && field.getType() == int.class, field.getName() + " is no public constant");
            }
        }
        expect(seen.equals(CONSTANTS), "the constants are " + seen);
    }

    private static void constantsHaveTheirValues() {
        int[] constants = {PresburgerAuto.NOT, PresburgerAuto.AND, PresburgerAuto.OR,
            PresburgerAuto.XOR, PresburgerAuto.IMPLIES};
        for (int kind = 0; kind < constants.length; kind++) {
            expect(constants[kind] == kind, "constant " + kind + " is " + constants[kind]);
        }
    }
}
