import java.io.IOException;
import java.lang.reflect.Field;
import java.lang.reflect.Method;
import java.lang.reflect.Modifier;
import java.nio.file.Files;
import java.nio.file.Path;
import java.util.Arrays;
import java.util.List;
import java.util.Set;
import java.util.TreeSet;

/** The public face of the document, and those rules of LANGUAGE.md that can be looked up. */
public final class FaceTest {
    private static final Check CHECK = new Check();
    private static final Set<String> FACE = new TreeSet<>(List.of(
        "void poke(int,int)", "int buffer(int)", "int create(int)", "int thread(int,int,int)",
        "int data(int,int,int,int)", "int versions(int)", "int finalise(int)", "int stop(int)",
        "int remove(int)", "int enter(int,int,int,int)", "int resume(int,int)", "int told(int)",
        "int evict(int,int,int)", "int reload(int,int,int,int)", "int page(int,int)",
        "int measure(int,int)", "long slot(int,int)", "int count(int)"));

    private FaceTest() {
    }

    public static void main(String[] args) throws IOException {
        theClass();
        methods();
        nested(EnclaveMonitor.class, new TreeSet<>(FACE));
        source();
        CHECK.end("FaceTest");
    }

    private static void theClass() {
        int modifiers = EnclaveMonitor.class.getModifiers();
        CHECK.isTrue("public and final", Modifier.isPublic(modifiers) && Modifier.isFinal(modifiers));
        CHECK.isTrue("no package", EnclaveMonitor.class.getPackageName().isEmpty());
        CHECK.due("constructors", EnclaveMonitor.class.getDeclaredConstructors().length, 1);
        String constructor = Arrays.toString(EnclaveMonitor.class.getConstructors());
        CHECK.isTrue("constructor", constructor.equals("[public EnclaveMonitor(int,long)]"));
        for (Field field : EnclaveMonitor.class.getDeclaredFields()) {
            boolean open = !Modifier.isPrivate(field.getModifiers());
            CHECK.isTrue("field " + field, open == field.getName().equals("NONE"));
        }
        CHECK.due("NONE", EnclaveMonitor.NONE, -1);
    }

    private static void methods() {
        Set<String> found = new TreeSet<>();
        for (Method method : EnclaveMonitor.class.getDeclaredMethods()) {
            if (!Modifier.isPrivate(method.getModifiers())) {
                CHECK.isTrue("public " + method, Modifier.isPublic(method.getModifiers()));
                found.add(told(method));
            }
        }
        CHECK.isTrue("the face is " + found, found.equals(FACE));
    }

    private static String told(Method method) {
        StringBuilder text = new StringBuilder();
        text.append(method.getReturnType()).append(' ').append(method.getName()).append('(');
        String comma = "";
        for (Class<?> type : method.getParameterTypes()) {
            text.append(comma).append(type);
            comma = ",";
        }
        return text.append(')').toString();
    }

    private static void nested(Class<?> outer, Set<String> face) {
        Set<String> names = new TreeSet<>();
        for (String method : face) {
            names.add(method.substring(method.indexOf(' ') + 1, method.indexOf('(')));
        }
        for (Method method : outer.getDeclaredMethods()) {
            boolean open = Modifier.isPublic(method.getModifiers());
            CHECK.isTrue("name of " + method, open || !names.contains(method.getName()));
            CHECK.isTrue("parameters of " + method, method.getParameterCount() <= 7);
        }
        for (Class<?> inside : outer.getDeclaredClasses()) {
            CHECK.isTrue("static " + inside, Modifier.isStatic(inside.getModifiers()));
            CHECK.isTrue("not public " + inside, !Modifier.isPublic(inside.getModifiers()));
            nested(inside, face);
        }
        for (Field field : outer.getDeclaredFields()) {
            boolean fixed = !Modifier.isStatic(field.getModifiers())
                || Modifier.isFinal(field.getModifiers());
            CHECK.isTrue("static is final " + field, fixed);
        }
    }

    private static void source() throws IOException {
        String text = Files.readString(Path.of("src/main/java/EnclaveMonitor.java"));
        for (String word : new String[] {"import ", "package ", "->", "::", "synchronized", "assert ",
            "finally", "try ", "catch", "float", "double", "System.out", "Exact("}) {
            CHECK.isTrue("the source has " + word, !text.contains(word));
        }
        for (char letter : text.toCharArray()) {
            if (letter > 126) {
                CHECK.isTrue("letter " + letter, false);
            }
        }
    }
}
