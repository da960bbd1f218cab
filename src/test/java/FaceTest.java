import java.lang.reflect.Constructor;
import java.lang.reflect.Field;
import java.lang.reflect.Method;
import java.lang.reflect.Modifier;
import java.nio.file.Files;
import java.nio.file.Path;
import java.util.Set;
import java.util.TreeSet;
import java.util.regex.Matcher;
import java.util.regex.Pattern;

/** The public face, and the rules of LANGUAGE.md that a scan of the text can tell. */
public final class FaceTest {
    private static final Set<String> FACE = Set.of("int feed(int,int,int,int,int)", "int end(int)", "int program()",
        "int fault()", "int is(int)", "int node(int,int)", "int expression(int,int)", "int risky()",
        "int fact(int,int,int)", "int placed(int,int,int,int)", "int placement(int,int,int)", "int shared(int,int)",
        "int most(int)", "int letter(int,int)", "int run(int,int)", "int computed(int)", "int output(int)",
        "int behind(int)", "int alike(int)", "int live(int)", "int dead(int)", "int again(int,int)",
        "int over(int,int)", "int depth(int)", "int heads()", "long weight(int)", "int others(int,int)",
        "long ways(int,int,int)", "boolean keep(int)", "boolean back(int)", "int write(int,int)", "int octet(int)");
    private static final String[] BANNED = {"\\bthrow\\b", "\\btry\\b", "\\bcatch\\b", "\\bsynchronized\\b",
        "\\bassert\\b", "->", "::", "\\bprotected\\b", "\\bThread\\b", "\\bRandom\\b", "\\bnanoTime\\b",
        "\\bcurrentTimeMillis\\b", "@Override", "\\binstanceof\\b", "Exact\\(", "\\bpackage\\b", "\\bvar\\b",
        "static \\{", "\\bhashCode\\b", "\\btoString\\b"};

    public static void main(String[] args) throws Exception {
        face();
        nested();
        text();
        Subject.finish("FaceTest");
    }

    private static String types(Class<?>[] types) {
        StringBuilder text = new StringBuilder();
        for (Class<?> type : types) {
            text.append(text.length() == 0 ? "" : ",").append(type.getSimpleName());
        }
        return "(" + text + ")";
    }

    private static void face() {
        Set<String> found = new TreeSet<>();
        Set<String> names = new TreeSet<>();
        for (Method m : LateMover.class.getDeclaredMethods()) {
            if (Modifier.isPublic(m.getModifiers())) {
                found.add(m.getReturnType().getSimpleName() + " " + m.getName() + types(m.getParameterTypes()));
                names.add(m.getName());
            } else if (!m.isSynthetic()) {
                Subject.due("private " + m.getName(), Modifier.isPrivate(m.getModifiers()), true);
            }
        }
        Subject.due("the face", found.toString(), new TreeSet<>(FACE).toString());
        for (Field f : LateMover.class.getDeclaredFields()) {
            boolean none = f.getName().equals("NONE");
            Subject.due("field " + f.getName(), Modifier.isPublic(f.getModifiers()), none);
            Subject.due("field " + f.getName(), Modifier.isPrivate(f.getModifiers()), !none);
            boolean constant = Modifier.isFinal(f.getModifiers()) && f.getType().isPrimitive();
            Subject.due("static " + f.getName(), Modifier.isStatic(f.getModifiers()) && !constant, false);
        }
        Constructor<?>[] made = LateMover.class.getDeclaredConstructors();
        Subject.due("constructors", made.length, 1);
        Subject.due("public final", LateMover.class.getModifiers(), Modifier.PUBLIC | Modifier.FINAL);
        for (Class<?> inside : LateMover.class.getDeclaredClasses()) {
            for (Method m : inside.getDeclaredMethods()) {
                Subject.due(inside.getSimpleName() + "." + m.getName() + " has a public name", names.contains(m.getName()), false);
            }
        }
    }

    private static void nested() {
        Class<?>[] inside = LateMover.class.getDeclaredClasses();
        Subject.due("some twelve classes", inside.length <= 12, true);
        for (Class<?> type : inside) {
            Subject.due("static " + type, Modifier.isStatic(type.getModifiers()), true);
            Subject.due("not public " + type, Modifier.isPublic(type.getModifiers()), false);
            fields(type);
        }
        fields(LateMover.class);
    }

    private static void fields(Class<?> type) {
        int count = 0;
        for (Field f : type.getDeclaredFields()) {
            count += Modifier.isStatic(f.getModifiers()) ? 0 : 1;
        }
        Subject.due("some twenty fields of " + type, count <= 20, true);
        for (Method m : type.getDeclaredMethods()) {
            Subject.due("parameters of " + m, m.getParameterCount() <= 7, true);
        }
    }

    private static void text() throws Exception {
        String source = Files.readString(Path.of(System.getProperty("latemover.source", "src/main/java/LateMover.java")));
        String code = source.replaceAll("(?s)/\\*.*?\\*/", "").replaceAll("//[^\n]*", "").replaceAll("'.'", "' '");
        for (String banned : BANNED) {
            Matcher m = Pattern.compile(banned).matcher(code);
            Subject.due("finds " + banned, m.find(), false);
        }
        Matcher imports = Pattern.compile("import ([^;]*);").matcher(code);
        while (imports.find()) {
            Subject.due("import", imports.group(1), "java.util.Arrays");
        }
        methodLengths(source);
    }

    private static void methodLengths(String source) {
        String[] lines = source.split("\n");
        int start = -1;
        String close = "";
        for (int i = 0; i < lines.length; i++) {
            Matcher m = Pattern.compile("^( +)[a-zA-Z].*\\) \\{$").matcher(lines[i]);
            boolean begins = m.matches() && !lines[i].trim().matches("(if|for|while|switch|else|\\}).*");
            if (start < 0 && begins) {
                start = i;
                close = m.group(1) + "}";
            } else if (start >= 0 && lines[i].equals(close)) {
                Subject.due("length of" + lines[start], i - start + 1 <= 60, true);
                start = -1;
            }
        }
    }
}
