import java.lang.reflect.Constructor;
import java.lang.reflect.Field;
import java.lang.reflect.Method;
import java.lang.reflect.Modifier;
import java.nio.file.Files;
import java.nio.file.Path;
import java.util.ArrayList;
import java.util.Arrays;
import java.util.HashSet;
import java.util.List;
import java.util.Set;
import java.util.regex.Matcher;
import java.util.regex.Pattern;

/** The face is the document's and no more, and the source keeps to the rules of the language that a text shows. */
public final class FaceTest {
    private static final String[] FACE = {
        "int feed(int,int,int,int,int)", "boolean end(int)", "int town()", "int fault()", "int person(int,int)",
        "int was(int,int)", "int corner(int,int)", "int now(int)", "int send(int,int)", "int drop(int)",
        "int leave(int)", "int hire(int,int,int)", "int minutes(int)", "int undo()", "int ring(int)", "int cut()",
        "int cutting()", "int meet(int,int)", "int proper(int,int)", "int fits()", "int ask()", "int path(int,int)",
        "int pathAt(int)", "int bar(int,int)", "int barred()", "int hires()", "int hiresFar()", "int hiredBy(int)",
        "int mean(int)", "int line(int)", "int byteAt(int)", "int drawn(int,int)", "int odds(int,int,int)",
        "int book(int)", "int told(int)", "int sentence()", "int said(int)", "boolean image(int)",
        "boolean restore(int)", "int count(int)"
    };

    private static final int NONE = -1;
    private static final Pattern HEAD = Pattern.compile("( {4}| {8})(?!(if|for|while|switch|do)\\b)\\w.*\\) (throws \\w+ )?\\{");

    public static void main(String[] args) throws Exception {
        Class<?> face = ProperFollow.class;
        Checks.due("public", Modifier.isPublic(face.getModifiers()), true);
        Checks.due("final", Modifier.isFinal(face.getModifiers()), true);
        Checks.due("NONE", ProperFollow.NONE, -1);
        methods(face);
        fields(face);
        Constructor<?>[] made = face.getDeclaredConstructors();
        Checks.due("constructors", made.length, 1);
        Checks.due("a public constructor", Modifier.isPublic(made[0].getModifiers()), true);
        for (Class<?> inside : face.getDeclaredClasses()) {
            Checks.due(inside + " is static", Modifier.isStatic(inside.getModifiers()), true);
            Checks.due(inside + " is public", Modifier.isPublic(inside.getModifiers()), false);
            noFaceNames(inside);
        }
        Checks.due("classes in all", face.getDeclaredClasses().length <= 12, true);
        source();
        Checks.finish();
    }

    private static void methods(Class<?> face) {
        Set<String> want = new HashSet<>(Arrays.asList(FACE));
        Set<String> names = new HashSet<>();
        for (String one : FACE) {
            names.add(one.substring(one.indexOf(' ') + 1, one.indexOf('(')));
        }
        for (Method m : face.getDeclaredMethods()) {
            if (Modifier.isPrivate(m.getModifiers())) {
                Checks.due("private " + m.getName() + " bears a public name", names.contains(m.getName()), false);
                continue;
            }
            StringBuilder text = new StringBuilder();
            text.append(m.getReturnType()).append(' ').append(m.getName()).append('(');
            for (int i = 0; i < m.getParameterCount(); i++) {
                text.append(i > 0 ? "," : "").append(m.getParameterTypes()[i]);
            }
            text.append(')');
            Checks.due("a method of the face: " + text, want.remove(text.toString()), true);
            Checks.due("public " + text, Modifier.isPublic(m.getModifiers()) && !Modifier.isStatic(m.getModifiers()), true);
        }
        Checks.due("methods that are missing: " + want, want.size(), 0);
    }

    private static void fields(Class<?> face) {
        int own = 0;
        for (Field f : face.getDeclaredFields()) {
            boolean isNone = f.getName().equals("NONE");
            Checks.due("only NONE is public: " + f.getName(), Modifier.isPrivate(f.getModifiers()), !isNone);
            if (Modifier.isStatic(f.getModifiers())) {
                Checks.due("static and final: " + f.getName(), Modifier.isFinal(f.getModifiers()), true);
            } else {
                own++;
            }
        }
        Checks.due("some twenty fields", own <= 20, true);
    }

    private static void noFaceNames(Class<?> inside) {
        int own = 0;
        for (Method m : inside.getDeclaredMethods()) {
            for (String one : FACE) {
                Checks.due(inside + " " + m.getName(), one.contains(" " + m.getName() + "("), false);
            }
            Checks.due("parameters of " + m, m.getParameterCount() <= 7, true);
        }
        for (Field f : inside.getDeclaredFields()) {
            if (!Modifier.isStatic(f.getModifiers())) {
                own++;
            }
        }
        Checks.due("fields of " + inside, own <= 20, true);
    }

    private static void source() throws Exception {
        Path file = Path.of(System.getProperty("project", "."), "src/main/java/ProperFollow.java");
        String text = Files.readString(file);
        List<String> imports = new ArrayList<>();
        Matcher import1 = Pattern.compile("^import (.*);$", Pattern.MULTILINE).matcher(text);
        while (import1.find()) {
            imports.add(import1.group(1));
        }
        Checks.due("imports " + imports, imports.equals(List.of("java.util.Arrays", "java.util.NoSuchElementException")), true);
        String[] never = {
            "^package ", "->", "::", "\\bcatch\\b", "\\bfinally\\b", "\\bsynchronized\\b", "\\bassert\\b", "Exact\\(",
            "\\bstatic \\{", "\\bString\\[\\]", "\\.hashCode\\(", "\\.toString\\(", "\\bSystem\\.(?!arraycopy)",
            "\\bwhile \\(true\\)", "\\bfor \\(;;\\)", "\"\\s*\\+", "\\+\\s*\"", "\\brecord\\b", "\\bprotected\\b",
            "[^\\x00-\\x7f]"
        };
        for (String pattern : never) {
            Matcher m = Pattern.compile(pattern, Pattern.MULTILINE).matcher(text);
            Checks.due("the source has " + pattern, m.find(), false);
        }
        methods(text.split("\n"));
    }

    /** Each method and constructor by its head's indent, up to the bracket that has the same one. */
    private static void methods(String[] lines) {
        int begin = NONE;
        for (int i = 0; i < lines.length; i++) {
            if (begin == NONE) {
                if (HEAD.matcher(lines[i]).matches()) {
                    begin = i;
                }
            } else if (lines[i].equals(indent(lines[begin]) + "}")) {
                Checks.due("lines of '" + lines[begin].trim() + "'", i - begin < 60, true);
                begin = NONE;
            } else {
                makesNothing(lines[begin].trim(), lines[i].trim());
            }
        }
        Checks.due("the last method has an end", begin, NONE);
    }

    private static String indent(String line) {
        return line.substring(0, line.length() - line.stripLeading().length());
    }

    /** What is made stands in a field's initialiser, in a constructor, in what the Reader's constructor calls, or behind throw. */
    private static void makesNothing(String head, String line) {
        boolean once = head.matches("(public )?[A-Z]\\w*\\(.*") || head.contains(" packedWords(");
        boolean makes = line.matches(".*\\bnew \\w+ *[(\\[{].*") && !line.startsWith("throw new ");
        Checks.due("made by a call: " + line, makes && !once, false);
    }
}
