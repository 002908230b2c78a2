import java.io.IOException;
import java.lang.reflect.Constructor;
import java.lang.reflect.Field;
import java.lang.reflect.Method;
import java.lang.reflect.Modifier;
import java.nio.file.Files;
import java.nio.file.Path;
import java.util.Arrays;
import java.util.Set;
import java.util.TreeSet;
import java.util.regex.Matcher;
import java.util.regex.Pattern;

/** Looks at the public face, and at the source for some rules of LANGUAGE.md. */
public final class FaceTest {
    private static final Set<String> FACE = new TreeSet<>(Arrays.asList("int MALFORMED", "int INVALID", "int NONE",
        "RangeTeller()", "boolean feed(int)", "int load()", "int place()", "int input(int)", "int run(int,int,int)",
        "int outcome(int)", "int output(int)", "int memory(int)", "int instruction(int,int)", "int operand(int,int)",
        "int local(int,int)", "int cell(int)", "int function(int,int)"));
    // A method's own brace stands as far to the right as its first line.
    private static final Pattern BODY = Pattern.compile(
        "\\n(    |        )(\\w[^\\n;={]*\\)) \\{\\n(.*?)\\n\\1\\}\\n", Pattern.DOTALL);
    private static int wrong = 0;

    public static void main(String[] args) throws IOException {
        face();
        nested();
        source(Files.readString(Path.of("src/main/java/RangeTeller.java")));
        System.out.println(wrong == 0 ? "the face is as due" : wrong + " faults of the face");
        if (wrong != 0) {
            System.exit(1);
        }
    }

    private static void must(boolean holds, String what) {
        if (!holds) {
            wrong++;
            System.out.println(what);
        }
    }

    private static String types(Class<?>[] types) {
        StringBuilder b = new StringBuilder("(");
        for (Class<?> type : types) {
            b.append(b.length() > 1 ? "," : "").append(type.getSimpleName());
        }
        return b.append(")").toString();
    }

    private static void face() {
        Class<?> c = RangeTeller.class;
        must(Modifier.isPublic(c.getModifiers()) && Modifier.isFinal(c.getModifiers()), "not public and final");
        Set<String> seen = new TreeSet<>();
        for (Field f : c.getDeclaredFields()) {
            if (!Modifier.isPrivate(f.getModifiers())) {
                seen.add(f.getType().getSimpleName() + " " + f.getName());
                must(Modifier.isPublic(f.getModifiers()) && Modifier.isStatic(f.getModifiers())
                    && Modifier.isFinal(f.getModifiers()), f.getName() + " is no constant");
            }
        }
        for (Constructor<?> k : c.getDeclaredConstructors()) {
            seen.add(c.getSimpleName() + types(k.getParameterTypes()));
        }
        for (Method m : c.getDeclaredMethods()) {
            if (!Modifier.isPrivate(m.getModifiers())) {
                seen.add(m.getReturnType().getSimpleName() + " " + m.getName() + types(m.getParameterTypes()));
                must(Modifier.isPublic(m.getModifiers()), m.getName() + " isn't public");
            }
        }
        must(seen.equals(FACE), "the face is " + seen + ", due is " + FACE);
        must(RangeTeller.MALFORMED == -1 && RangeTeller.INVALID == -2 && RangeTeller.NONE == -3, "the constants");
    }

    private static void nested() {
        must(RangeTeller.class.getDeclaredClasses().length <= 12, "more than twelve classes");
        for (Class<?> c : RangeTeller.class.getDeclaredClasses()) {
            must(Modifier.isStatic(c.getModifiers()), c.getName() + " isn't static");
            int fields = 0;
            for (Field f : c.getDeclaredFields()) {
                boolean fixed = Modifier.isStatic(f.getModifiers());
                must(!fixed || Modifier.isFinal(f.getModifiers()), f + " is static and not final");
                fields += fixed ? 0 : 1;
            }
            must(fields <= 20, c.getName() + " has " + fields + " fields");
            for (Method m : c.getDeclaredMethods()) {
                must(m.getParameterCount() <= 7, m + " takes too many parameters");
                for (Method open : RangeTeller.class.getDeclaredMethods()) {
                    must(!Modifier.isPublic(open.getModifiers()) || !open.getName().equals(m.getName()),
                        m + " bears the name of a public method");
                }
            }
        }
    }

    private static void source(String text) {
        for (String word : new String[] {"package ", "->", "::", "finally", "synchronized", "assert ", "throw ", "try ",
            "java.io", "java.util.Random", "System.nanoTime", "System.currentTimeMillis", "Thread", "Exact("}) {
            must(!text.contains(word), "the source holds '" + word.trim() + "'");
        }
        for (String line : text.split("\n")) {
            must(line.length() <= 120, "a long line: " + line);
        }
        Matcher body = BODY.matcher(text);
        int methods = 0;
        while (body.find()) {
            methods++;
            must(body.group(3).split("\n").length <= 60, "a long method: " + body.group(2));
            must(!body.group(3).contains("new ") || body.group(2).equals("public RangeTeller()"),
                "a call makes an object: " + body.group(2));
        }
        must(methods > 100, "only " + methods + " methods were looked at");
    }
}
