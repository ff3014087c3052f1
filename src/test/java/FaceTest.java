import java.io.IOException;
import java.lang.reflect.Constructor;
import java.lang.reflect.Field;
import java.lang.reflect.Method;
import java.lang.reflect.Modifier;
import java.nio.file.Files;
import java.nio.file.Path;
import java.util.Set;
import java.util.TreeSet;
import java.util.regex.Matcher;
import java.util.regex.Pattern;

/** The public face, member by member, and those rules of the language that can be seen in the text of the program. */
public final class FaceTest {
    private static final String[] FACE = {
        "int NONE", "int WAITS", "int VICTIM", "int CRASHED", "int FULL", "PageLoom()",
        "void open(int)", "int put(int,int,int)", "int take(int,int)", "int read(int,int)", "int place(int)",
        "int back(int,int)", "int commit(int)", "int undo(int)", "int mark()", "int write(int)", "void crashAt(int)",
        "void crash()", "int recover()", "int pass(int)", "int page(int,int)", "int entry(int,int)",
        "int frame(int,int)", "int hand()", "int record(int,int)", "int records()", "int durable()", "int writes()",
        "int holder(int)", "int waitsFor(int)", "int plain(int)", "boolean agrees()", "int check()",
    };
    private static final String[] FORBIDDEN = {
        "\\bcatch\\b", "\\btry\\b", "\\bfinally\\b", "->", "::", "\\bsynchronized\\b", "\\bassert\\b", "\\bimport\\b",
        "\\bpackage\\b", "\\bvar\\b", "\\bSystem\\b", "\\bThread\\b", "Exact\\b", "\\bprotected\\b", "\\bdouble\\b",
    };

    private static int wrong = 0;

    private static void due(String what, Object got, Object want) {
        if (!got.equals(want)) {
            wrong++;
            System.out.println(what + " is " + got + ", due is " + want);
        }
    }

    private static String parameters(Class<?>[] types) {
        StringBuilder text = new StringBuilder();
        for (Class<?> type : types) {
            text.append(text.length() == 0 ? "" : ",").append(type.getSimpleName());
        }
        return "(" + text + ")";
    }

    private static void face() {
        Set<String> got = new TreeSet<>();
        for (Field field : PageLoom.class.getDeclaredFields()) {
            if (!Modifier.isPrivate(field.getModifiers())) {
                got.add(field.getType().getSimpleName() + " " + field.getName());
                due(field.getName() + " is public static final", field.getModifiers() & 31, 25);
            }
        }
        for (Constructor<?> made : PageLoom.class.getDeclaredConstructors()) {
            if (!Modifier.isPrivate(made.getModifiers())) {
                got.add("PageLoom" + parameters(made.getParameterTypes()));
            }
        }
        Set<String> names = new TreeSet<>();
        for (Method method : PageLoom.class.getDeclaredMethods()) {
            if (Modifier.isPublic(method.getModifiers())) {
                names.add(method.getName());
            }
            if (!Modifier.isPrivate(method.getModifiers()) && !method.isSynthetic()) {
                got.add(method.getReturnType().getSimpleName() + " " + method.getName()
                        + parameters(method.getParameterTypes()));
            }
        }
        due("the face", got, new TreeSet<>(Set.of(FACE)));
        due("the class is public and final", PageLoom.class.getModifiers() & 17, 17);
        due("classes inside, not too many", PageLoom.class.getDeclaredClasses().length <= 11, true);
        for (Class<?> inside : PageLoom.class.getDeclaredClasses()) {
            due(inside + " is static", Modifier.isStatic(inside.getModifiers()), true);
            due(inside + " is not public", Modifier.isPublic(inside.getModifiers()), false);
            for (Method method : inside.getDeclaredMethods()) {
                due(inside + " has a name of the face, " + method.getName(), names.contains(method.getName()), false);
            }
        }
    }

    private static void text() throws IOException {
        String program = Files.readString(Path.of("src/main/java/PageLoom.java"));
        String bare = program.replaceAll("(?s)/\\*.*?\\*/", "").replaceAll("//[^\n]*", "")
                .replaceAll("\"[^\"\n]*\"", "\"\"");
        for (String forbidden : FORBIDDEN) {
            Matcher found = Pattern.compile(forbidden).matcher(bare);
            due("'" + forbidden + "' stands in the program", found.find(), false);
        }
        int number = 0;
        int begun = 0;
        for (String line : program.split("\n")) {
            number++;
            due("line " + number + " is too long", line.length() > 120, false);
            if (line.matches("\\s+.*\\) (throws .*)?\\{") && line.matches(" {4,8}[a-zA-Z].*")) {
                begun = number;
            }
            if (begun > 0 && line.matches(" {4}(    )?\\}")) {
                due("the method at line " + begun + " is too long", number - begun > 60, false);
                begun = 0;
            }
        }
    }

    /** Each line of the face as the document tells it, with what it throws, stands in the program. */
    private static void declarations() throws IOException {
        String program = Files.readString(Path.of("src/main/java/PageLoom.java"));
        String document = Files.readString(Path.of("../shared/DOC.md"));
        Matcher told = Pattern.compile("(?m)^ {4}(public .*);$").matcher(document);
        int lines = 0;
        while (told.find()) {
            boolean isConstant = told.group(1).contains(" = ");
            String due = "\n    " + told.group(1) + (isConstant ? ";" : " {") + "\n";
            due("'" + told.group(1) + "' stands in the program", program.contains(due), true);
            lines++;
        }
        due("lines of the face", lines, FACE.length);
    }

    public static void main(String[] args) throws IOException {
        face();
        declarations();
        text();
        System.out.println(wrong == 0 ? "the face and the text are as due" : wrong + " things are not as due");
        if (wrong != 0) {
            System.exit(1);
        }
    }
}
