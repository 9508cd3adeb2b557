import java.lang.reflect.Constructor;
import java.lang.reflect.Field;
import java.lang.reflect.Method;
import java.lang.reflect.Modifier;
import java.util.ArrayList;
import java.util.List;
import java.util.TreeSet;

/** The public face, just as the document has it, and the rules of the language about it. */
public final class FaceTest {
    private static final String[] METHODS = {
        "int say(int,int) IndexOutOfBoundsException IllegalArgumentException IllegalStateException",
        "int flush(int) IndexOutOfBoundsException IllegalStateException",
        "int deliver(int) IndexOutOfBoundsException IllegalStateException",
        "int lose(int) IndexOutOfBoundsException IllegalStateException",
        "int swap(int) IndexOutOfBoundsException IllegalStateException",
        "int set(int,int) IndexOutOfBoundsException IllegalArgumentException",
        "int append(int) IllegalArgumentException IllegalStateException",
        "int clearBuffer()",
        "int firstError()",
        "int talk() IllegalArgumentException",
        "int keep()",
        "int goBack() IllegalStateException",
        "int undo() IllegalStateException",
        "int saying(int,int) IndexOutOfBoundsException IllegalArgumentException",
        "int hearing(int,int) IndexOutOfBoundsException IllegalArgumentException",
        "int packet(int,int,int) IndexOutOfBoundsException IllegalArgumentException",
        "int why(int) IndexOutOfBoundsException",
        "int count(int) IllegalArgumentException",
        "int setting(int) IndexOutOfBoundsException",
        "int code(int,int,int) IndexOutOfBoundsException IllegalArgumentException",
        "int settles(int,int,int) IndexOutOfBoundsException IllegalArgumentException",
        "int ifDelivered(int,int) IndexOutOfBoundsException IllegalArgumentException",
        "double meanError(int) IndexOutOfBoundsException",
        "float lostShare()",
        "long digest()"};
    private static final Check CHECK = new Check("FaceTest");

    private FaceTest() {
    }

    public static void main(String[] args) {
        theClass();
        theMethods();
        theConstants();
        theClassesInside();
        CHECK.end();
    }

    private static void theClass() {
        int modifiers = FoldedVoices.class.getModifiers();
        CHECK.note(Modifier.isPublic(modifiers) && Modifier.isFinal(modifiers), "the class is public and final");
        CHECK.note(FoldedVoices.class.getPackageName().isEmpty(), "the class has no package");
        Constructor<?>[] constructors = FoldedVoices.class.getDeclaredConstructors();
        CHECK.due("constructors", constructors.length, 1);
        CHECK.note(Modifier.isPublic(constructors[0].getModifiers()), "the constructor is public");
        CHECK.due("its parameters", constructors[0].getParameterCount(), 0);
        CHECK.due("its exceptions", constructors[0].getExceptionTypes().length, 0);
    }

    private static void theMethods() {
        TreeSet<String> due = new TreeSet<>(List.of(METHODS));
        TreeSet<String> got = new TreeSet<>();
        TreeSet<String> names = new TreeSet<>();
        List<Method> others = new ArrayList<>();
        for (Method method : FoldedVoices.class.getDeclaredMethods()) {
            if (Modifier.isPublic(method.getModifiers())) {
                got.add(told(method));
                names.add(method.getName());
                CHECK.note(!Modifier.isStatic(method.getModifiers()), method + " is not static");
            } else {
                others.add(method);
            }
        }
        CHECK.dueText("the methods", got.toString(), due.toString());
        for (Class<?> inside : FoldedVoices.class.getDeclaredClasses()) {
            for (Method method : inside.getDeclaredMethods()) {
                CHECK.note(!names.contains(method.getName()), method + " bears a public name");
            }
        }
        for (Method method : others) {
            CHECK.note(Modifier.isPrivate(method.getModifiers()), method + " is private");
            CHECK.note(!names.contains(method.getName()), method + " bears a public name");
            CHECK.note(method.getParameterCount() <= 7, method + " has at most seven parameters");
        }
    }

    private static String told(Method method) {
        StringBuilder told = new StringBuilder(method.getReturnType().getSimpleName());
        told.append(' ').append(method.getName()).append('(');
        for (Class<?> type : method.getParameterTypes()) {
            told.append(told.charAt(told.length() - 1) == '(' ? "" : ",").append(type.getSimpleName());
        }
        told.append(')');
        for (Class<?> type : method.getExceptionTypes()) {
            told.append(' ').append(type.getSimpleName());
        }
        return told.toString();
    }

    private static void theConstants() {
        for (Field field : FoldedVoices.class.getDeclaredFields()) {
            int modifiers = field.getModifiers();
            if (field.getName().equals("NONE")) {
                CHECK.due("modifiers of NONE", modifiers, Modifier.PUBLIC | Modifier.STATIC | Modifier.FINAL);
                CHECK.dueText("type of NONE", field.getType().getSimpleName(), "int");
            } else {
                CHECK.note(Modifier.isPrivate(modifiers), field + " is private");
            }
            CHECK.note(!Modifier.isStatic(modifiers) || Modifier.isFinal(modifiers), field + " is final");
        }
        CHECK.due("NONE", FoldedVoices.NONE, -10000);
    }

    private static void theClassesInside() {
        Class<?>[] inside = FoldedVoices.class.getDeclaredClasses();
        CHECK.note(inside.length <= 11, "at most twelve classes");
        for (Class<?> one : inside) {
            CHECK.note(Modifier.isStatic(one.getModifiers()), one + " is static");
            CHECK.note(!Modifier.isPublic(one.getModifiers()), one + " is not public");
            CHECK.note(!Modifier.isProtected(one.getModifiers()), one + " is not protected");
            CHECK.note(one.getDeclaredFields().length <= 20, one + " has at most some twenty fields");
        }
    }
}
