import java.io.IOException;
import java.lang.reflect.Constructor;
import java.lang.reflect.Executable;
import java.lang.reflect.Field;
import java.lang.reflect.Member;
import java.lang.reflect.Method;
import java.lang.reflect.Modifier;
import java.nio.file.Files;
import java.nio.file.Path;
import java.util.ArrayList;
import java.util.Arrays;
import java.util.List;
import java.util.Set;
import java.util.TreeSet;
import java.util.regex.Matcher;
import java.util.regex.Pattern;

/**
 * The public face, member by member as the document writes it, and the rules of LANGUAGE.md that can be read off the
 * class or its text. It is run where .ci/run runs it, beside ../shared.
 */
public final class FaceTest {
    private static final Path DOCUMENT = Path.of("../shared/DOC.md");
    private static final Path SOURCE = Path.of("src/main/java/PuzzlePress.java");

    private static final int MOST_CLASSES = 12;
    private static final int MOST_FIELDS = 20;
    private static final int MOST_PARAMETERS = 7;
    private static final int MOST_LINES_OF_METHOD = 60;
    private static final List<String> KINDS_OF_CONSTANT = List.of(
            "int", "long", "boolean", "char", "String", "int[]", "long[]", "char[]", "byte[]");
    /** Each stands for something that rules 2, 4, 6, 12 or 13 leave out. */
    private static final List<String> LEFT_OUT = List.of(
            "->", "::", "@", "\\btry\\b", "\\bfinally\\b", "\\bassert\\b", "\\bsynchronized\\b", "\\bvar\\b",
            "\\bThread\\b", "\\bRandom\\b", "Exact\\(", "\\bSystem\\.(?!arraycopy)", "\\bequals\\(", "\\bhashCode\\(",
            "\\btoString\\(", "\\bwhile \\(true\\)", "\\bfor \\(;");

    private static final Tally TALLY = new Tally();

    private FaceTest() {
    }

    public static void main(String[] args) throws IOException {
        String document = Files.readString(DOCUMENT);
        String source = Files.readString(SOURCE);
        face(document);
        List<Class<?>> classes = allClasses();
        classesInside(classes);
        members(classes);
        text(source);
        TALLY.end();
    }

    private static void face(String document) {
        TALLY.dueText("the class", Modifier.toString(PuzzlePress.class.getModifiers()), "public final");
        TALLY.dueText("what it extends", PuzzlePress.class.getSuperclass().getSimpleName(), "Object");
        TALLY.due("what it implements", PuzzlePress.class.getInterfaces().length, 0);
        TALLY.dueText("the face", String.join("\n", faceOfClass()), String.join("\n", faceOfDocument(document)));
        TALLY.due("NONE", PuzzlePress.NONE, -1);
    }

    private static Set<String> faceOfDocument(String document) {
        Set<String> face = new TreeSet<>();
        int start = document.indexOf("```java");
        String block = document.substring(start, document.indexOf("```", start + 3));
        Matcher member = Pattern.compile("(?m)^ +(public .*);$").matcher(block);
        while (member.find()) {
            String withoutNames = member.group(1).replaceAll("int \\w+(?=[,)])", "int");
            face.add(withoutNames.replace("java.util.", "").replaceAll(" = .*", ""));
        }
        TALLY.due("members that the document names", face.size(), 18);
        return face;
    }

    private static Set<String> faceOfClass() {
        Set<String> face = new TreeSet<>();
        for (Field field : PuzzlePress.class.getDeclaredFields()) {
            if (isSeen(field)) {
                face.add(Modifier.toString(field.getModifiers()) + " int " + field.getName());
            }
        }
        for (Constructor<?> constructor : PuzzlePress.class.getDeclaredConstructors()) {
            if (isSeen(constructor)) {
                face.add(faceOf(constructor, "PuzzlePress"));
            }
        }
        for (Method method : PuzzlePress.class.getDeclaredMethods()) {
            if (isSeen(method)) {
                face.add(faceOf(method, method.getReturnType().getSimpleName() + " " + method.getName()));
            }
        }
        return face;
    }

    private static boolean isSeen(Member member) {
        return !Modifier.isPrivate(member.getModifiers()) && !member.isSynthetic();
    }

    private static String faceOf(Executable member, String name) {
        String exceptions = namesOf(member.getExceptionTypes());
        return Modifier.toString(member.getModifiers()) + " " + name + "(" + namesOf(member.getParameterTypes()) + ")"
                + (exceptions.isEmpty() ? "" : " throws " + exceptions);
    }

    private static String namesOf(Class<?>[] types) {
        List<String> names = new ArrayList<>();
        for (Class<?> type : types) {
            names.add(type.getSimpleName());
        }
        return String.join(", ", names);
    }

    private static List<Class<?>> allClasses() {
        List<Class<?>> classes = new ArrayList<>();
        classes.add(PuzzlePress.class);
        for (int i = 0; i < classes.size(); i++) {
            classes.addAll(Arrays.asList(classes.get(i).getDeclaredClasses()));
        }
        return classes;
    }

    /** Rules 1, 2 and 11: classes inside are static and not public, and there are not many. */
    private static void classesInside(List<Class<?>> classes) {
        dueAtMost("classes", classes.size(), MOST_CLASSES);
        for (Class<?> inside : classes.subList(1, classes.size())) {
            int modifiers = inside.getModifiers();
            dueTrue(inside + " is static", Modifier.isStatic(modifiers));
            dueTrue(inside + " is hidden", !Modifier.isPublic(modifiers) && !Modifier.isProtected(modifiers));
        }
    }

    /** Rules 1, 5 and 11. */
    private static void members(List<Class<?>> classes) {
        Set<String> publicNames = new TreeSet<>();
        for (Method method : PuzzlePress.class.getMethods()) {
            publicNames.add(method.getName());
        }
        for (Class<?> one : classes) {
            int fields = 0;
            for (Field field : one.getDeclaredFields()) {
                fields += Modifier.isStatic(field.getModifiers()) ? 0 : 1;
                dueConstant(field);
            }
            dueAtMost("fields of " + one, fields, MOST_FIELDS);
            for (Method method : one.getDeclaredMethods()) {
                dueAtMost("parameters of " + method, method.getParameterCount(), MOST_PARAMETERS);
                boolean inFace = one == PuzzlePress.class && Modifier.isPublic(method.getModifiers());
                dueTrue(method + " has a name of its own", inFace || !publicNames.contains(method.getName()));
            }
        }
    }

    private static void dueConstant(Field field) {
        if (Modifier.isStatic(field.getModifiers()) && !field.isSynthetic()) {
            dueTrue(field + " is final", Modifier.isFinal(field.getModifiers()));
            dueTrue(field + " is a constant", KINDS_OF_CONSTANT.contains(field.getType().getSimpleName()));
        }
    }

    private static void text(String source) {
        String code = source.replaceAll("(?s)/\\*.*?\\*/", "").replaceAll("//.*", "");
        for (String pattern : LEFT_OUT) {
            dueTrue("the text is without " + pattern, !Pattern.compile(pattern).matcher(code).find());
        }
        Matcher imported = Pattern.compile("(?m)^import (.*);").matcher(code);
        while (imported.find()) {
            TALLY.dueText("an import", imported.group(1), "java.util.NoSuchElementException");
        }
        dueTrue("the text has no package line", !Pattern.compile("(?m)^package ").matcher(code).find());
        dueTrue("the text is in plain characters", source.chars().allMatch(c -> c < 128));
        lengths(source.lines().toList());
    }

    /** Rule 11: a method, or a block in one, begins behind 4 or 8 blanks and ends with a brace behind as many. */
    private static void lengths(List<String> lines) {
        int methods = 0;
        for (int start = 0; start < lines.size(); start++) {
            Matcher head = Pattern.compile("( {4}| {8})[a-zA-Z].*\\(.*[^;]").matcher(lines.get(start));
            if (head.matches()) {
                int length = lines.subList(start, lines.size()).indexOf(head.group(1) + "}");
                dueAtMost("lines of " + lines.get(start).strip(), length, MOST_LINES_OF_METHOD);
                methods++;
            }
        }
        dueTrue("methods are found in the text", methods > 16);
    }

    private static void dueAtMost(String what, int got, int most) {
        dueTrue(what + ", " + got + " of them, are at most " + most, got <= most);
    }

    private static void dueTrue(String what, boolean is) {
        TALLY.dueText(what, is ? "yes" : "no", "yes");
    }
}
