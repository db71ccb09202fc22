import java.io.IOException;
import java.lang.reflect.Constructor;
import java.lang.reflect.Field;
import java.lang.reflect.Method;
import java.lang.reflect.Modifier;
import java.nio.charset.StandardCharsets;
import java.nio.file.Files;
import java.nio.file.Path;
import java.util.Arrays;
import java.util.List;
import java.util.Set;
import java.util.TreeSet;
import java.util.regex.Matcher;
import java.util.regex.Pattern;

/** Those rules of LANGUAGE.md that can be looked up in the source and in the compiled class. */
public final class LanguageTest {
    private static final Due due = new Due("LanguageTest");
    private static final String FACE = "person(int,int,int) of(int,int) asks(int,int,int) terms(int,int) "
        + "feed(int,int,int,int,int) end(int) row() gaps() law() orders() fault() stopped() force(int) take(int,int) "
        + "loose(int,int) walk(int,int) pass() undo() lights(int) ring(int) rings() narrow(int) gloves(int) kept(int) "
        + "two(int) stays() seen(int,int,int) forget() fits(int) ask(int) few(int,int) compare(int) days(int,int) "
        + "drawn(int,int) image(int) back(int) count(int) status()";
    private static final List<String> LIBRARY = Arrays.asList("Math.min", "Math.max", "Math.abs", "Integer.bitCount",
        "Integer.numberOfTrailingZeros", "Long.bitCount", "System.arraycopy", "Arrays.fill");

    public static void main(String[] args) throws IOException {
        face();
        classes();
        source(Files.readString(Path.of("src/main/java/HandRing.java"), StandardCharsets.ISO_8859_1));
        due.close();
    }

    private static void face() {
        due.part("rule 1");
        Set<String> shown = new TreeSet<>();
        for (Method m : HandRing.class.getDeclaredMethods()) {
            if (!Modifier.isPrivate(m.getModifiers()) && !m.isSynthetic()) {
                shown.add(signature(m));
                due.same(m.getName() + " is public", 1, Modifier.isPublic(m.getModifiers()) ? 1 : 0);
                Class<?> answer = m.getName().equals("few") ? long.class : int.class;
                due.same(m.getName() + " answers", 1, m.getReturnType() == answer ? 1 : 0);
            }
        }
        check("the face", new TreeSet<>(Arrays.asList(FACE.split(" "))).toString(), shown.toString());
        for (Field f : HandRing.class.getDeclaredFields()) {
            boolean isPrivate = Modifier.isPrivate(f.getModifiers());
            due.same("private: " + f.getName(), f.getName().equals("NONE") ? 0 : 1, isPrivate ? 1 : 0);
        }
        due.same("constructors", 1, HandRing.class.getDeclaredConstructors().length);
        due.same("final", 1, Modifier.isFinal(HandRing.class.getModifiers()) ? 1 : 0);
    }

    private static String signature(Method m) {
        StringBuilder b = new StringBuilder(m.getName()).append('(');
        for (Class<?> c : m.getParameterTypes()) {
            b.append(b.charAt(b.length() - 1) == '(' ? "" : ",").append(c.getName());
        }
        return b.append(')').toString();
    }

    private static void check(String what, String want, String got) {
        if (!want.equals(got)) {
            due.fail(what + " is " + got + ", due is " + want);
        }
    }

    private static void classes() {
        due.part("rules 1, 2, 5, 11");
        Set<String> names = new TreeSet<>();
        for (Method m : HandRing.class.getDeclaredMethods()) {
            if (Modifier.isPublic(m.getModifiers())) {
                names.add(m.getName());
            }
        }
        Class<?>[] inside = HandRing.class.getDeclaredClasses();
        atMost("classes", 12, inside.length + 1);
        members(HandRing.class, names);
        for (Class<?> c : inside) {
            due.same("static: " + c, 1, Modifier.isStatic(c.getModifiers()) ? 1 : 0);
            due.same("classes inside " + c, 0, c.getDeclaredClasses().length);
            members(c, names);
        }
    }

    private static void members(Class<?> c, Set<String> publicNames) {
        int fields = 0;
        for (Field f : c.getDeclaredFields()) {
            boolean isStatic = Modifier.isStatic(f.getModifiers());
            fields += isStatic ? 0 : 1;
            due.same("final: " + f, 1, !isStatic || Modifier.isFinal(f.getModifiers()) ? 1 : 0);
        }
        atMost("fields of " + c, 20, fields);
        for (Method m : c.getDeclaredMethods()) {
            atMost("parameters of " + m, 7, m.getParameterCount());
            boolean same = publicNames.contains(m.getName()) && !Modifier.isPublic(m.getModifiers());
            due.same("no public one's name: " + m, 0, same ? 1 : 0);
        }
        for (Constructor<?> k : c.getDeclaredConstructors()) {
            atMost("parameters of " + k, 7, k.getParameterCount());
        }
    }

    private static void atMost(String what, int most, int got) {
        due.same(what + " (" + got + ") is at most " + most, 1, got <= most ? 1 : 0);
    }

    private static void source(String whole) {
        due.part("rules 3, 4, 6, 10, 11");
        String code = whole.replaceAll("(?s)/\\*.*?\\*/", "").replaceAll("//[^\n]*", "");
        for (String word : "throw try catch synchronized assert yield record enum new_Object throws finally native var double float".split(" ")) {
            none(code, "\\b" + word.replace('_', ' ') + "\\b");
        }
        for (String sign : new String[] {"->", "::", "@", "\"\"\"", "import (?!java\\.util\\.Arrays;)", "\\bpackage\\b", "\" *\\+", "\\+ *\"",
            "hashCode", "toString", "\\.length\\(\\) *\\[", "String\\[", "static *\\{", "while *\\(true"}) {
            none(code, sign);
        }
        Matcher m = Pattern.compile("\\b(Math|Integer|Long|System|Arrays|Character|String|Boolean)\\.\\w+").matcher(code);
        while (m.find()) {
            due.same("in the library: " + m.group(), 1, LIBRARY.contains(m.group()) || m.group().startsWith("util") ? 1 : 0);
        }
        for (char c : whole.toCharArray()) {
            if (c > 126 || c < 32 && c != '\n') {
                due.fail("a sign " + (int) c + " in the source");
            }
        }
        methodLengths(whole);
    }

    private static void none(String code, String pattern) {
        Matcher m = Pattern.compile(pattern).matcher(code);
        due.same("nowhere: " + pattern, 0, m.find() ? 1 : 0);
    }

    private static void methodLengths(String whole) {
        String[] lines = whole.split("\n");
        for (int i = 0; i < lines.length; i++) {
            Matcher m = Pattern.compile("^( {4}| {8})(?=\\S)(?!.*\\bclass\\b).*\\) \\{$").matcher(lines[i]);
            if (m.matches() && !lines[i].trim().startsWith("for") && !lines[i].trim().startsWith("if")
                && !lines[i].trim().startsWith("switch")) {
                int end = i;
                while (!lines[end].equals(m.group(1) + "}")) {
                    end++;
                }
                atMost("lines of " + lines[i].trim(), 60, end - i + 1);
            }
        }
    }
}
