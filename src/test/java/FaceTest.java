import java.lang.reflect.Constructor;
import java.lang.reflect.Field;
import java.lang.reflect.Method;
import java.lang.reflect.Modifier;
import java.util.Arrays;
import java.util.NoSuchElementException;
import java.util.TreeSet;

/** The public face: each constant, constructor and method of the document, and nothing else that isn't private. */
final class FaceTest {
    private static final Check CHECK = new Check("FaceTest");
    /** Each method of the document: what it answers, its name, how many ints it takes. */
    private static final String[] METHODS = {"int feed 5", "int text 1", "int fault 1", "int person 2", "int paper 2",
        "int thing 2", "int land 2", "boolean lose 2", "boolean find 1", "int copy 1", "int witness 2", "int wed 3",
        "boolean dies 2", "boolean takeBack 1", "int undo 0", "int form 2", "int why 2", "int struckBy 2", "int counting 3",
        "int taker 2", "int takerBy 2", "int heirs 1", "long has 4", "int holders 2", "int wealth 1", "int ever 1",
        "int gain 2", "int against 2", "int key 1", "int wouldPaper 3", "int wouldDie 3", "int dayFor 3", "int margin 1",
        "int death 2", "int moves 2", "int kin 2", "int naming 2", "int sees 3", "int give 3", "int count 1"};

    public static void main(String[] args) {
        theClass();
        constants();
        constructors();
        methods();
        classesInside();
        CHECK.end();
    }

    private static void theClass() {
        int modifiers = WillDeposit.class.getModifiers();
        CHECK.due("public", true, Modifier.isPublic(modifiers));
        CHECK.due("final", true, Modifier.isFinal(modifiers));
        CHECK.due("no package", "", WillDeposit.class.getPackageName());
        CHECK.due("above it Object alone", true, WillDeposit.class.getSuperclass() == Object.class);
        CHECK.due("no interfaces", 0, WillDeposit.class.getInterfaces().length);
    }

    private static void constants() {
        int open = 0;
        for (Field field : WillDeposit.class.getDeclaredFields()) {
            int modifiers = field.getModifiers();
            open += Modifier.isPrivate(modifiers) ? 0 : 1;
            CHECK.due(field.getName() + ": static ones are final", true,
                    !Modifier.isStatic(modifiers) || Modifier.isFinal(modifiers));
        }
        CHECK.due("one that isn't private", 1, open);
        CHECK.due("NONE", -1, WillDeposit.NONE);
        try {
            int modifiers = WillDeposit.class.getDeclaredField("NONE").getModifiers();
            CHECK.due("NONE is public static final", true, Modifier.isPublic(modifiers) && Modifier.isStatic(modifiers)
                    && Modifier.isFinal(modifiers));
        } catch (NoSuchFieldException e) {
            CHECK.due("NONE is there", true, false);
        }
    }

    private static void constructors() {
        Constructor<?>[] constructors = WillDeposit.class.getDeclaredConstructors();
        CHECK.due("one constructor", 1, constructors.length);
        CHECK.due("it is public", true, Modifier.isPublic(constructors[0].getModifiers()));
        CHECK.due("it takes nothing", 0, constructors[0].getParameterCount());
        CHECK.due("it throws nothing", 0, constructors[0].getExceptionTypes().length);
    }

    private static void methods() {
        TreeSet<String> found = new TreeSet<>();
        TreeSet<String> hidden = new TreeSet<>();
        for (Method method : WillDeposit.class.getDeclaredMethods()) {
            if (Modifier.isPrivate(method.getModifiers())) {
                hidden.add(method.getName());
                continue;
            }
            found.add(method.getReturnType() + " " + method.getName() + " " + method.getParameterCount());
            CHECK.due(method.getName() + " is public, not static", true,
                    Modifier.isPublic(method.getModifiers()) && !Modifier.isStatic(method.getModifiers()));
            for (Class<?> type : method.getParameterTypes()) {
                CHECK.due(method.getName() + " takes ints", true, type == int.class);
            }
            boolean tells = method.getName().equals("person") || method.getName().equals("paper");
            Class<?>[] due = tells ? new Class<?>[] {IndexOutOfBoundsException.class, NoSuchElementException.class}
                    : new Class<?>[0];
            CHECK.due(method.getName() + " tells what it throws", true, Arrays.equals(due, method.getExceptionTypes()));
        }
        CHECK.due("the methods", new TreeSet<>(Arrays.asList(METHODS)).toString(), found.toString());
        for (String method : METHODS) {
            CHECK.due("no private one is called like " + method, false, hidden.contains(method.split(" ")[1]));
        }
    }

    private static void classesInside() {
        for (Class<?> inside : WillDeposit.class.getDeclaredClasses()) {
            int modifiers = inside.getModifiers();
            CHECK.due(inside.getName() + " is static", true, Modifier.isStatic(modifiers));
            CHECK.due(inside.getName() + " is not public", false, Modifier.isPublic(modifiers) || Modifier.isProtected(modifiers));
        }
    }
}
