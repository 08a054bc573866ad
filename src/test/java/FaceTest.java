import java.lang.reflect.Constructor;
import java.lang.reflect.Field;
import java.lang.reflect.Method;
import java.lang.reflect.Modifier;
import java.nio.file.Files;
import java.nio.file.Path;
import java.util.HashSet;
import java.util.List;
import java.util.Set;
import java.util.TreeSet;

/** The public face as the document writes it, and those rules of LANGUAGE.md that can be looked at from outside. */
public final class FaceTest {
    private static final String[] FACE = {
        "int type(int int)", "int wipe(int)", "int undo(int)", "int fault(int)", "int cell(int)", "int beat(int)",
        "int thief(int int)", "int set(int int)", "int at(int)", "int sees(int int)", "int seen(int int)",
        "int takes(int)", "int safe(int)", "int lost()", "int first()", "int spare()", "int trim(int)",
        "int begin(int)", "int recruit(int)", "int missed(int int)", "int forget()", "int read(int)",
        "int omitted()", "int meant(int int)", "int ask()", "long fogged(int int int int)",
        "int nights(int int int)", "int sheet(int int int)", "int lose(int)", "int put(int int int int)",
        "int get(int int int)", "int copy(int int int int int)", "int write(int)", "int count(int)",
        "long digest()",
    };
    private static final String[] RULED_OUT = {
        "throw", "try", "catch", "finally", "synchronized", "assert", "volatile", "transient", "native", "->", "::",
    };

    public static void main(String[] args) throws Exception {
        methods();
        members();
        nestedClasses();
        source();
        Due.end();
    }

    private static String nameOf(Method method) {
        StringBuilder name = new StringBuilder(method.getReturnType().getSimpleName());
        name.append(' ').append(method.getName()).append('(');
        for (int i = 0; i < method.getParameterCount(); i++) {
            name.append(i == 0 ? "" : " ").append(method.getParameterTypes()[i].getSimpleName());
        }
        return name.append(')').toString();
    }

    private static void methods() {
        Set<String> open = new TreeSet<>();
        Set<String> openNames = new HashSet<>();
        for (Method method : CatBeat.class.getDeclaredMethods()) {
            if (!Modifier.isPrivate(method.getModifiers())) {
                Due.dueTrue("public: " + nameOf(method), Modifier.isPublic(method.getModifiers()));
                open.add(nameOf(method));
                openNames.add(method.getName());
            }
        }
        Set<String> due = new TreeSet<>(List.of(FACE));
        Due.dueTrue("the face is as told, not " + open, open.equals(due));
        for (Method method : CatBeat.class.getDeclaredMethods()) {
            if (Modifier.isPrivate(method.getModifiers())) {
                Due.dueTrue("name of its own: " + method.getName(), !openNames.contains(method.getName()));
            }
        }
    }

    private static void members() {
        Due.dueTrue("final", Modifier.isFinal(CatBeat.class.getModifiers()));
        Due.dueTrue("public", Modifier.isPublic(CatBeat.class.getModifiers()));
        Constructor<?>[] constructors = CatBeat.class.getDeclaredConstructors();
        Due.due("constructors", constructors.length, 1);
        Due.due("parameters of it", constructors[0].getParameterCount(), 0);
        Due.due("NONE", CatBeat.NONE, -1);
        Due.due("BAD", CatBeat.BAD, -2);
        Due.due("NOT", CatBeat.NOT, -3);
        Due.due("FULL", CatBeat.FULL, -4);
        Set<String> constants = Set.of("NONE", "BAD", "NOT", "FULL");
        for (Field field : CatBeat.class.getDeclaredFields()) {
            int is = field.getModifiers();
            Due.dueTrue("field " + field.getName(), Modifier.isPrivate(is) || constants.contains(field.getName()));
            Due.dueTrue("static and final " + field.getName(), !Modifier.isStatic(is) || Modifier.isFinal(is));
        }
    }

    private static void nestedClasses() {
        Class<?>[] inside = CatBeat.class.getDeclaredClasses();
        Due.dueTrue("some twelve classes", inside.length <= 12);
        for (Class<?> c : inside) {
            Due.dueTrue("static " + c, Modifier.isStatic(c.getModifiers()) && !Modifier.isPublic(c.getModifiers()));
            for (Method method : c.getDeclaredMethods()) {
                Due.dueTrue("parameters of " + method, method.getParameterCount() <= 7);
            }
        }
    }

    private static void source() throws Exception {
        Path file = Path.of("src/main/java/CatBeat.java");
        int sinceHead = 0;
        for (String line : Files.readAllLines(file)) {
            String code = line.replaceAll("//.*|/\\*.*|^\\s*\\*.*", "");
            for (String word : RULED_OUT) {
                boolean isWord = Character.isLetter(word.charAt(0));
                boolean there = isWord ? code.matches(".*\\b" + word + "\\b.*") : code.contains(word);
                Due.dueTrue(word + " in: " + line, !there);
            }
            Due.dueTrue("import in: " + line, !code.startsWith("import") || code.equals("import java.util.Arrays;"));
            Due.dueTrue("rows are made with the object alone, not in: " + line, !code.contains("new ") || isMadeAtFirst(code.trim()));
            sinceHead = code.endsWith(") {") && code.matches("\\s+(public |private |static |final )*\\w+(\\[\\])* ?\\w*\\(.*") ? 0 : sinceHead + 1;
            Due.dueTrue("a method of some sixty lines before: " + line, sinceHead <= 60);
        }
    }

    /** A field's own row, or one of the rows that the constructors of CatBeat and Text make. */
    private static boolean isMadeAtFirst(String code) {
        return code.matches("(private )?final \\S+ \\w+ = new .*") || code.equals("texts[text] = new Text(TEXT_LIMITS[text]);")
            || code.equals("sheets[s] = new Sheet();") || code.equals("bytes = new int[Math.max(limit, 0)];");
    }
}
