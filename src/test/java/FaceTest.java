import java.io.IOException;
import java.lang.reflect.Field;
import java.lang.reflect.Method;
import java.lang.reflect.Modifier;
import java.nio.file.Files;
import java.nio.file.Path;
import java.util.Arrays;
import java.util.List;
import java.util.Set;
import java.util.TreeSet;

/** The public face of the document, and those rules of LANGUAGE.md that can be looked up. */
public final class FaceTest {
    private static final Check CHECK = new Check();
    private static final Path SOURCE = Path.of("src/main/java/EnclaveMonitor.java");
    private static final Path DOCUMENT = Path.of("../shared/DOC.md");
    private static final int MOST_CLASSES = 12;
    private static final int MOST_FIELDS = 20;
    private static final int MOST_LINES = 60;
    private static final Set<Class<?>> CONSTANTS = Set.of(int.class, long.class, boolean.class, char.class,
        String.class, int[].class, long[].class, char[].class, byte[].class);
    private static final Set<String> FACE = new TreeSet<>(List.of(
        "void poke(int,int)", "int buffer(int)", "int create(int)", "int thread(int,int,int)",
        "int data(int,int,int,int)", "int versions(int)", "int finalise(int)", "int stop(int)",
        "int remove(int)", "int enter(int,int,int,int)", "int resume(int,int)", "int told(int)",
        "int evict(int,int,int)", "int reload(int,int,int,int)", "int page(int,int)",
        "int measure(int,int)", "long slot(int,int)", "int count(int)"));

    private FaceTest() {
    }

    public static void main(String[] args) throws IOException {
        theClass();
        methods();
        thrown();
        nested(EnclaveMonitor.class, new TreeSet<>(FACE));
        source();
        declaredAsInTheDocument();
        methodsInTheSource();
        CHECK.end("FaceTest");
    }

    private static void theClass() {
        int modifiers = EnclaveMonitor.class.getModifiers();
        CHECK.isTrue("public and final", Modifier.isPublic(modifiers) && Modifier.isFinal(modifiers));
        CHECK.isTrue("no package", EnclaveMonitor.class.getPackageName().isEmpty());
        CHECK.due("constructors", EnclaveMonitor.class.getDeclaredConstructors().length, 1);
        String constructor = Arrays.toString(EnclaveMonitor.class.getConstructors());
        CHECK.isTrue("constructor", constructor.equals("[public EnclaveMonitor(int,long)]"));
        for (Field field : EnclaveMonitor.class.getDeclaredFields()) {
            boolean open = !Modifier.isPrivate(field.getModifiers());
            CHECK.isTrue("field " + field, open == field.getName().equals("NONE"));
        }
        CHECK.due("NONE", EnclaveMonitor.NONE, -1);
    }

    private static void methods() {
        Set<String> found = new TreeSet<>();
        for (Method method : EnclaveMonitor.class.getDeclaredMethods()) {
            if (!Modifier.isPrivate(method.getModifiers())) {
                CHECK.isTrue("public " + method, Modifier.isPublic(method.getModifiers()));
                found.add(told(method));
            }
        }
        CHECK.isTrue("the face is " + found, found.equals(FACE));
    }

    private static void thrown() {
        for (Method method : EnclaveMonitor.class.getMethods()) {
            if (method.getDeclaringClass() == EnclaveMonitor.class) {
                boolean throwing = Set.of("poke", "buffer").contains(method.getName());
                List<Class<?>> want = throwing ? List.of(IndexOutOfBoundsException.class) : List.of();
                CHECK.isTrue("thrown by " + method, List.of(method.getExceptionTypes()).equals(want));
            }
        }
    }

    private static String told(Method method) {
        StringBuilder text = new StringBuilder();
        text.append(method.getReturnType()).append(' ').append(method.getName()).append('(');
        String comma = "";
        for (Class<?> type : method.getParameterTypes()) {
            text.append(comma).append(type);
            comma = ",";
        }
        return text.append(')').toString();
    }

    private static void nested(Class<?> outer, Set<String> face) {
        Set<String> names = new TreeSet<>();
        for (String method : face) {
            names.add(method.substring(method.indexOf(' ') + 1, method.indexOf('(')));
        }
        for (Method method : outer.getDeclaredMethods()) {
            boolean open = Modifier.isPublic(method.getModifiers());
            CHECK.isTrue("name of " + method, open || !names.contains(method.getName()));
            CHECK.isTrue("parameters of " + method, method.getParameterCount() <= 7);
        }
        for (Class<?> inside : outer.getDeclaredClasses()) {
            CHECK.isTrue("static " + inside, Modifier.isStatic(inside.getModifiers()));
            CHECK.isTrue("not public " + inside, !Modifier.isPublic(inside.getModifiers()));
            nested(inside, face);
        }
        fields(outer);
        CHECK.isTrue("classes inside " + outer, outer.getDeclaredClasses().length < MOST_CLASSES);
    }

    private static void fields(Class<?> owner) {
        int many = 0;
        for (Field field : owner.getDeclaredFields()) {
            if (Modifier.isStatic(field.getModifiers())) {
                CHECK.isTrue("static is final " + field, Modifier.isFinal(field.getModifiers()));
                CHECK.isTrue("static is a constant " + field, CONSTANTS.contains(field.getType()));
            } else {
                many++;
            }
        }
        CHECK.isTrue("fields of " + owner, many <= MOST_FIELDS);
    }

    private static void source() throws IOException {
        String text = Files.readString(SOURCE);
        for (String word : new String[] {"import ", "package ", "->", "::", "synchronized", "assert ",
            "finally", "try ", "catch", "float", "double", "System.out", "Exact("}) {
            CHECK.isTrue("the source has " + word, !text.contains(word));
        }
        for (char letter : text.toCharArray()) {
            if (letter > 126) {
                CHECK.isTrue("letter " + letter, false);
            }
        }
    }

    /** The names of the parameters too, and no more thrown than the document says. */
    private static void declaredAsInTheDocument() throws IOException {
        String source = Files.readString(SOURCE);
        String document = Files.readString(DOCUMENT);
        int from = document.indexOf("```java\n") + "```java\n".length();
        int found = 0;
        for (String line : document.substring(from, document.indexOf("```", from)).lines().toList()) {
            boolean opens = line.endsWith(");") || line.endsWith("Exception;");
            String wanted = opens ? line.substring(0, line.length() - 1) + " {" : line;
            CHECK.isTrue("the source has: " + wanted, source.contains(wanted + "\n"));
            found += opens ? 1 : 0;
        }
        CHECK.due("calls of the document, with the constructor", found, FACE.size() + 1);
    }

    /** Methods are short, and but for constructors none makes an object other than what it throws. */
    private static void methodsInTheSource() throws IOException {
        String head = "";
        int lines = 0;
        for (String line : Files.readAllLines(SOURCE)) {
            String text = line.strip();
            int indent = line.indexOf(text);
            boolean member = indent == 4 || indent == 8;
            boolean begins = head.isEmpty() && member && text.endsWith("{") && text.contains("(");
            if (begins && !text.startsWith("for ") && !text.startsWith("if ")) {
                head = line;
                lines = 0;
            }
            lines++;
            boolean maker = head.isEmpty() || head.contains("EnclaveMonitor(") || head.contains(" Sealer(");
            CHECK.isTrue("makes an object: " + line, maker || !text.contains("new ") || text.startsWith("throw new "));
            if (!head.isEmpty() && line.equals(" ".repeat(head.indexOf(head.strip())) + "}")) {
                CHECK.isTrue("lines of " + head.strip() + " " + lines, lines <= MOST_LINES);
                head = "";
            }
        }
        CHECK.isTrue("the last method ends", head.isEmpty());
    }
}
