import java.lang.reflect.Constructor;
import java.lang.reflect.Field;
import java.lang.reflect.Method;
import java.lang.reflect.Modifier;
import java.util.Arrays;
import java.util.TreeSet;

/** The public face, its constants, and what LANGUAGE.md says of the members of the class. */
public final class FaceTest {
    private static final String CONSTANTS =
        "MAX_KEY=9999 MAX_VALUE=999999 NONE=-1 ABSENT=-1 FULL=-2 PENDING=-3 BAD=-4 "
        + "R_IDLE=0 R_READ_VERSION=1 R_ARRIVE=2 R_READ_SIDE=3 R_LOOKUP=4 R_DEPART=5 R_DONE=6 "
        + "W_IDLE=0 W_LOCK=1 W_APPLY_IDLE=2 W_FLIP=3 W_DRAIN_NEXT=4 W_TOGGLE=5 W_DRAIN_PREV=6 "
        + "W_APPLY_OLD=7 W_DONE=8 KIND_NONE=0 KIND_PUT=1 KIND_REMOVE=2 "
        + "STEP_NONE=0 STEP_MOVED=1 STEP_WAITED=2 FIELD_PHASE=0 FIELD_KEY=1 FIELD_RESULT=2 "
        + "FIELD_VERSION=3 FIELD_SIDE=4 FIELD_VALUE=5 FIELD_KIND=6 G_LEFT_RIGHT=0 G_VERSION=1 "
        + "G_INDICATOR0=2 G_INDICATOR1=3 G_LOCK=4 G_SIZE=5 G_CURSOR=6 G_STEPS=7 G_CAPACITY=8 "
        + "G_READERS=9 G_WRITERS=10";
    private static final String METHODS =
        "boolean startLookup(int,int);boolean startPut(int,int,int);boolean startRemove(int,int);"
        + "int step(int);int run(int);int peek(int);int instance(int,int);int reader(int,int);"
        + "int writer(int,int);int global(int)";
    private static final Class<?> FACE = LeftRightMap.class;
    private static final Due DUE = new Due();

    public static void main(String[] args) {
        DUE.test("public final class LeftRightMap", FaceTest::theClass);
        DUE.test("Public constants", FaceTest::constants);
        DUE.test("The public face: methods", FaceTest::methods);
        DUE.test("The public face: the constructor", FaceTest::constructors);
        DUE.end();
    }

    private static void theClass() {
        int modifiers = FACE.getModifiers();
        DUE.due("public final", Modifier.isPublic(modifiers) && Modifier.isFinal(modifiers), true);
        DUE.due("superclass is Object", FACE.getSuperclass() == Object.class, true);
        DUE.due("nested classes and interfaces",
            FACE.getDeclaredClasses().length + FACE.getInterfaces().length, 0);
    }

    private static void constructors() {
        Constructor<?>[] constructors = FACE.getDeclaredConstructors();
        DUE.due("constructors", constructors.length, 1);
        DUE.due("the constructor",
            constructors[0].toString().equals("public LeftRightMap(int,int,int)"), true);
    }

    private static void constants() {
        TreeSet<String> found = new TreeSet<>();
        int others = 0;
        for (Field field : FACE.getDeclaredFields()) {
            int modifiers = field.getModifiers();
            boolean constant = Modifier.isStatic(modifiers) && Modifier.isFinal(modifiers);
            boolean isPrivate = Modifier.isPrivate(modifiers);
            if (Modifier.isPublic(modifiers) && constant && field.getType() == int.class) {
                found.add(field.getName() + "=" + valueOf(field));
                continue;
            }
            DUE.due(field + " is private", isPrivate, true);
            DUE.due(field + " is no static variable", !Modifier.isStatic(modifiers) || constant, true);
            others += constant ? 0 : 1;
        }
        same("public constants", found, new TreeSet<>(Arrays.asList(CONSTANTS.split(" "))));
        DUE.due("at most forty fields beside the constants", others <= 40, true);
    }

    private static int valueOf(Field field) {
        try {
            return field.getInt(null);
        } catch (IllegalAccessException thrown) {
            throw new IllegalStateException(thrown);
        }
    }

    private static void methods() {
        TreeSet<String> found = new TreeSet<>();
        TreeSet<String> publicNames = new TreeSet<>();
        for (Method method : FACE.getDeclaredMethods()) {
            if (Modifier.isPublic(method.getModifiers())) {
                found.add(method.toString().replace("public ", "").replace("LeftRightMap.", ""));
                publicNames.add(method.getName());
            }
        }
        same("public methods", found, new TreeSet<>(Arrays.asList(METHODS.split(";"))));
        for (Method method : FACE.getDeclaredMethods()) {
            if (!Modifier.isPublic(method.getModifiers())) {
                DUE.due(method + " is private", Modifier.isPrivate(method.getModifiers()), true);
                DUE.due(method + " bears a public name", publicNames.contains(method.getName()), false);
                DUE.due(method + " takes at most seven", method.getParameterCount() <= 7, true);
            }
        }
    }

    private static void same(String what, TreeSet<String> found, TreeSet<String> want) {
        if (!found.equals(want)) {
            System.out.println(what + ": " + found + ", due are " + want);
        }
        DUE.due(what + " are those of the document", found.equals(want), true);
    }
}
