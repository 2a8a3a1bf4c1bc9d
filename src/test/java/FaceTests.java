import java.io.IOException;
import java.lang.reflect.Constructor;
import java.lang.reflect.Field;
import java.lang.reflect.Method;
import java.lang.reflect.Modifier;
import java.nio.file.Files;
import java.nio.file.Path;
import java.util.List;
import java.util.Set;
import java.util.TreeSet;
import java.util.regex.Matcher;
import java.util.regex.Pattern;

/** The class's members are those of the document's face, and it keeps to rules that can be seen. */
public final class FaceTests {
    private static final Path PROGRAM = Path.of("src/main/java/ReachFlow.java");
    private static final List<String> FACE = List.of("clear()int", "exception(int)int", "node(int,int,int,int)int",
        "jump(int,int)int", "label(int,int)int", "row(int)int", "put(int,int)int", "end(int)int", "drop()int",
        "told(int,int)int", "part(int,int)int", "of(int)int", "check(int)int", "fault(int,int)int", "notes()int",
        "note(int)int", "reached(int)boolean", "completes(int)boolean", "can(int,int)int", "target(int)int",
        "walked(int)boolean", "ends(int,int,int)int", "member(int,int)int");
    private static final String RULED_OUT = "throw|try|catch|finally|synchronized|assert|import|package|native|->|::"
        + "|System\\.(?!arraycopy)|Math\\.\\w+Exact|hashCode|new\\s+\\w+\\s*\\([^)]*\\)\\s*\\{";
    private static int wrong = 0;

    private static void due(String what, boolean holds) {
        if (!holds) {
            wrong++;
            System.out.println("not as due: " + what);
        }
    }

    private static String form(Method m) {
        StringBuilder form = new StringBuilder(m.getName()).append('(');
        for (Class<?> type : m.getParameterTypes()) {
            form.append(form.charAt(form.length() - 1) == '(' ? "" : ",").append(type.getName());
        }
        return form.append(')').append(m.getReturnType().getName()).toString();
    }

    private static void methods() {
        Set<String> open = new TreeSet<>();
        Set<String> names = new TreeSet<>();
        for (Method m : ReachFlow.class.getDeclaredMethods()) {
            if (!Modifier.isPrivate(m.getModifiers())) {
                open.add(form(m));
                names.add(m.getName());
                due("public and no more: " + m, m.getModifiers() == Modifier.PUBLIC);
            }
        }
        due("methods of the face: " + open, open.equals(new TreeSet<>(FACE)));
        for (Method m : ReachFlow.class.getDeclaredMethods()) {
            due("a private method of another name: " + m, !Modifier.isPrivate(m.getModifiers()) || !names.contains(m.getName()));
        }
    }

    private static void others() {
        int face = Modifier.PUBLIC | Modifier.STATIC | Modifier.FINAL;
        List<String> constants = List.of("NONE", "BAD", "FULL", "NO");
        for (Field f : ReachFlow.class.getDeclaredFields()) {
            boolean named = constants.contains(f.getName());
            due("field " + f, named ? f.getModifiers() == face : Modifier.isPrivate(f.getModifiers()));
        }
        Constructor<?>[] made = ReachFlow.class.getDeclaredConstructors();
        due("one constructor", made.length == 1 && made[0].getParameterCount() == 0 && Modifier.isPublic(made[0].getModifiers()));
        due("public and final", ReachFlow.class.getModifiers() == (Modifier.PUBLIC | Modifier.FINAL));
        Class<?>[] inside = ReachFlow.class.getDeclaredClasses();
        due("twelve classes at most", inside.length < 13);
        for (Class<?> c : inside) {
            due("static " + c, Modifier.isStatic(c.getModifiers()) && !Modifier.isPublic(c.getModifiers()));
            int fields = 0;
            for (Field f : c.getDeclaredFields()) {
                boolean isConstant = Modifier.isStatic(f.getModifiers());
                due("no static state " + f, !isConstant || Modifier.isFinal(f.getModifiers()));
                fields += isConstant ? 0 : 1;
            }
            due("twenty fields at most in " + c, fields <= 20);
        }
    }

    private static void words() throws IOException {
        String text = Files.readString(PROGRAM).replaceAll("(?s)/\\*.*?\\*/", "").replaceAll("//[^\n]*", "");
        Matcher found = Pattern.compile("(?<!\\w)(?:" + RULED_OUT + ")(?!\\w)").matcher(text);
        while (found.find()) {
            due("the text has '" + found.group() + "'", false);
        }
    }

    public static void main(String[] args) throws IOException {
        methods();
        others();
        words();
        System.out.println(wrong == 0 ? "all is as due" : wrong + " things are not as due");
        if (wrong != 0) {
            System.exit(1);
        }
    }
}
