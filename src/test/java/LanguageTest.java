import java.io.IOException;
import java.lang.reflect.Constructor;
import java.lang.reflect.Field;
import java.lang.reflect.Method;
import java.lang.reflect.Modifier;
import java.nio.charset.StandardCharsets;
import java.nio.file.Files;
import java.nio.file.Path;
import java.util.ArrayList;
import java.util.List;
import java.util.TreeSet;
import java.util.regex.Matcher;
import java.util.regex.Pattern;

/** The face is the document's and no more, and the source keeps to those rules of LANGUAGE.md that can be seen in it. */
public final class LanguageTest {
    private static final String[] FACE = {
        "type(long,int)int", "clear()int", "tell()int", "question()int", "worlds(int,int)long", "there(int)long", "grade(int)int",
        "gradeOf(int)int", "breaks(int)int", "so(int)int", "best(int)long", "ends(int)int", "leaves(int)long", "held()int",
        "why(int)int", "doubt(int)int", "learn(int)int", "believed()int", "forget()int", "weight(int,int)int", "count(int)int",
        "trace()long"};
    private static final String[] FORBIDDEN = {
        "\\b(throw|throws|try|catch|finally|synchronized|assert|import|package|native|volatile|transient)\\b", "->", "::",
        "\\bException\\b", "Exact\\(", "\\bSystem\\.(?!arraycopy)", "\\bThread\\b", "\\bRandom\\b", "\\b(float|double)\\b",
        "\\.(hashCode|toString|getClass)\\(", "\\bObject\\b", "\\bgoto\\b", "\\bstatic\\s*\\{", "\\bprotected\\b"};
    private static int wrong = 0;

    public static void main(String[] args) throws IOException {
        face();
        classes();
        source();
        System.out.println(wrong == 0 ? "the language is kept to" : wrong + " rules are broken");
        if (wrong != 0) {
            System.exit(1);
        }
    }

    private static void fail(String what) {
        wrong++;
        System.out.println(what);
    }

    private static String signature(Method m) {
        List<String> kinds = new ArrayList<>();
        for (Class<?> kind : m.getParameterTypes()) {
            kinds.add(kind.getSimpleName());
        }
        return m.getName() + "(" + String.join(",", kinds) + ")" + m.getReturnType().getSimpleName();
    }

    private static void face() {
        Class<?> c = AsARule.class;
        if (!Modifier.isPublic(c.getModifiers()) || !Modifier.isFinal(c.getModifiers())) {
            fail("the class is not public and final");
        }
        TreeSet<String> due = new TreeSet<>(List.of(FACE));
        TreeSet<String> names = new TreeSet<>();
        for (String method : FACE) {
            names.add(method.substring(0, method.indexOf('(')));
        }
        for (Method m : c.getDeclaredMethods()) {
            boolean open = !Modifier.isPrivate(m.getModifiers());
            if (open && !due.remove(signature(m))) {
                fail("not of the face: " + signature(m));
            }
            if (!open && names.contains(m.getName())) {
                fail("private, but named as one of the face: " + m.getName());
            }
        }
        for (String missing : due) {
            fail("missing: " + missing);
        }
        Constructor<?>[] made = c.getDeclaredConstructors();
        if (made.length != 1 || made[0].getParameterCount() != 0 || !Modifier.isPublic(made[0].getModifiers())) {
            fail("the constructor is not the document's");
        }
        int constants = 0;
        for (Field f : c.getDeclaredFields()) {
            if (!Modifier.isPrivate(f.getModifiers())) {
                constants++;
            }
            staticField(f);
        }
        if (constants != 5 || AsARule.BAD != -1 || AsARule.STATE != -2 || AsARule.FULL != -3 || AsARule.NONE != -9
            || AsARule.NO != -1000) {
            fail("the constants are not the document's");
        }
    }

    private static void staticField(Field f) {
        if (Modifier.isStatic(f.getModifiers()) && !Modifier.isFinal(f.getModifiers())) {
            fail("static, but not final: " + f);
        }
    }

    private static void classes() {
        Class<?>[] inside = AsARule.class.getDeclaredClasses();
        if (inside.length > 11) {
            fail("too many classes");
        }
        for (Class<?> c : inside) {
            if (!Modifier.isStatic(c.getModifiers()) || Modifier.isPublic(c.getModifiers())) {
                fail("not a hidden static class: " + c);
            }
            int fields = 0;
            for (Field f : c.getDeclaredFields()) {
                staticField(f);
                fields += Modifier.isStatic(f.getModifiers()) ? 0 : 1;
            }
            if (fields > 20) {
                fail("too many fields: " + c);
            }
            for (Method m : c.getDeclaredMethods()) {
                if (m.getParameterCount() > 7) {
                    fail("too many parameters: " + m);
                }
            }
        }
    }

    private static void source() throws IOException {
        String text = Files.readString(Path.of("src/main/java/AsARule.java"), StandardCharsets.US_ASCII);
        String code = text.replaceAll("(?s)/\\*.*?\\*/", "").replaceAll("//[^\n]*", "").replaceAll("\"[^\"\n]*\"", "\"\"");
        for (String pattern : FORBIDDEN) {
            Matcher found = Pattern.compile(pattern).matcher(code);
            if (found.find()) {
                fail("not of the language: " + found.group());
            }
        }
        Matcher body = Pattern.compile("(?s)\n( +)[a-z][^\n;=]*\\) \\{\n.*?\n\\1\\}\n").matcher(code);
        while (body.find()) {
            if (body.group().split("\n").length > 60) {
                fail("too long: " + body.group().trim().split("\n")[0]);
            }
        }
    }
}
