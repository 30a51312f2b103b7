import java.lang.reflect.Constructor;
import java.lang.reflect.Field;
import java.lang.reflect.Method;
import java.lang.reflect.Modifier;
import java.util.ArrayList;
import java.util.Collections;
import java.util.List;

/** The public face is the document's, with the exceptions that each method names, and nothing beside it can be seen. */
public final class FaceTest {
    private static final String BAD = "IllegalArgumentException";
    private static final String ROOM = BAD + " UnsupportedOperationException";
    private static final String INDEX = BAD + " IndexOutOfBoundsException";
    private static final String[] FACE = {
        "void number int int " + BAD,
        "void move int int " + BAD,
        "void clear int " + BAD,
        "int make int int int boolean " + ROOM,
        "int copy int int " + ROOM,
        "int chain int int int int " + BAD,
        "void get int int int " + INDEX,
        "void put int int int " + INDEX,
        "int walk int int int " + BAD,
        "void classOf int int " + BAD,
        "void setClass int int " + BAD,
        "int byteAt int int " + INDEX,
        "void bytePut int int long " + INDEX,
        "int kind int " + BAD,
        "int value int " + BAD,
        "int size int " + BAD,
        "void become int int " + BAD,
        "int words",
        "int entries",
        "int instance int int int " + BAD,
        "int owners int " + BAD,
        "boolean reaches int int " + BAD,
        "int sum int " + BAD,
    };

    public static void main(String[] args) {
        Check.says("The public face");
        methods();
        constructors();
        fields();
        Check.due("the class is public and final", Modifier.toString(TabledStore.class.getModifiers()), "public final");
        Check.end();
    }

    private static void methods() {
        List<String> due = new ArrayList<>(List.of(FACE));
        List<String> got = new ArrayList<>();
        for (Method method : TabledStore.class.getDeclaredMethods()) {
            if (!Modifier.isPrivate(method.getModifiers())) {
                got.add(told(method));
            }
        }
        Collections.sort(due);
        Collections.sort(got);
        Check.due("the methods", String.join("\n", got), String.join("\n", due));
    }

    private static String told(Method method) {
        StringBuilder text = new StringBuilder();
        text.append(method.getReturnType().getSimpleName()).append(' ').append(method.getName());
        for (Class<?> type : method.getParameterTypes()) {
            text.append(' ').append(type.getSimpleName());
        }
        for (Class<?> type : method.getExceptionTypes()) {
            text.append(' ').append(type.getSimpleName());
        }
        return text.toString();
    }

    private static void constructors() {
        StringBuilder got = new StringBuilder();
        for (Constructor<?> constructor : TabledStore.class.getDeclaredConstructors()) {
            got.append(constructor);
        }
        Check.due("the constructors", got.toString(), "public TabledStore(int,int)");
    }

    private static void fields() {
        for (Field field : TabledStore.class.getDeclaredFields()) {
            Check.due("private and final: " + field.getName(),
                    Modifier.isPrivate(field.getModifiers()) && Modifier.isFinal(field.getModifiers()), true);
        }
    }
}
