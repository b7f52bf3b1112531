import java.io.IOException;
import java.lang.reflect.Constructor;
import java.lang.reflect.Field;
import java.lang.reflect.Method;
import java.lang.reflect.Modifier;
import java.nio.file.Files;
import java.nio.file.Path;
import java.util.TreeSet;
import java.util.regex.Matcher;
import java.util.regex.Pattern;

/** The public face, and rules of LANGUAGE.md that can be seen from the class or its file. */
final class FaceTest {
    private static final String[] FACE = {
        "int army(int, int)", "int back(int)", "int best(int, int, int)", "int clash()", "int clear()",
        "int count(int)", "int day()", "int dutiful(int, int)", "int keep(int)", "int land()", "int least(int)",
        "int lost(int)", "int march(int, int)", "int now(int)", "int orders(int, int)", "int page(int, int)",
        "int rate(int, int)", "int readings()", "int roads(int)", "int strikes(int)", "int type(int)",
        "int undo()", "int writes(int, int, int, int)", "int written(int, int)", "long trace()"};
    private static final String[] FORBIDDEN = {
        "throw", "throws", "try", "catch", "synchronized", "assert", "package", "native", "->", "::", "@",
        "random", "System\\.(?!arraycopy)", "double", "float"};

    public static void main(String[] args) throws IOException {
        constants();
        members();
        insideClasses();
        fileKeepsToTheLanguage();
        Due.end();
    }

    private static void constants() {
        Due.is("BAD", ChronicleWar.BAD, -1);
        Due.is("STATE", ChronicleWar.STATE, -2);
        Due.is("FULL", ChronicleWar.FULL, -3);
        Due.is("NONE", ChronicleWar.NONE, -9);
        Due.is("NO", ChronicleWar.NO, -1000000);
    }

    private static void isTrue(String what, boolean holds) {
        Due.is(what, holds ? 1 : 0, 1);
    }

    private static void members() {
        Class<ChronicleWar> c = ChronicleWar.class;
        isTrue("public", Modifier.isPublic(c.getModifiers()));
        isTrue("final", Modifier.isFinal(c.getModifiers()));
        TreeSet<String> face = new TreeSet<>();
        TreeSet<String> names = new TreeSet<>();
        for (Method m : c.getDeclaredMethods()) {
            if (!Modifier.isPrivate(m.getModifiers())) {
                isTrue(m + " is public, not static", Modifier.isPublic(m.getModifiers()) && !Modifier.isStatic(m.getModifiers()));
                StringBuilder s = new StringBuilder(m.getReturnType() + " " + m.getName() + "(");
                for (int i = 0; i < m.getParameterCount(); i++) {
                    s.append(i == 0 ? "" : ", ").append(m.getParameterTypes()[i]);
                }
                face.add(s.append(")").toString());
                names.add(m.getName());
            }
        }
        isTrue("the face is " + face, face.equals(new TreeSet<>(java.util.List.of(FACE))));
        for (Method m : c.getDeclaredMethods()) {
            isTrue(m + " bears a name of the face", !Modifier.isPrivate(m.getModifiers()) || !names.contains(m.getName()));
        }
        Constructor<?>[] made = c.getDeclaredConstructors();
        isTrue("one public constructor", made.length == 1 && made[0].getParameterCount() == 0 && Modifier.isPublic(made[0].getModifiers()));
        for (Field f : c.getDeclaredFields()) {
            boolean isTold = java.util.List.of("BAD", "STATE", "FULL", "NONE", "NO").contains(f.getName());
            isTrue(f + " is as visible as told", isTold ? Modifier.isPublic(f.getModifiers()) : Modifier.isPrivate(f.getModifiers()));
            isTrue(f + " if static is final", !Modifier.isStatic(f.getModifiers()) || Modifier.isFinal(f.getModifiers()));
        }
    }

    private static void insideClasses() {
        Class<?>[] inside = ChronicleWar.class.getDeclaredClasses();
        isTrue("few classes: " + (inside.length + 1), inside.length + 1 <= 12);
        TreeSet<String> names = new TreeSet<>();
        for (Method m : ChronicleWar.class.getMethods()) {
            names.add(m.getName());
        }
        for (Class<?> k : inside) {
            isTrue(k + " is static", Modifier.isStatic(k.getModifiers()));
            isTrue(k + " is private or package-visible", (k.getModifiers() & (Modifier.PUBLIC | Modifier.PROTECTED)) == 0);
            isTrue(k + " has few fields", k.getDeclaredFields().length <= 20);
            for (Method m : k.getDeclaredMethods()) {
                isTrue(m + " bears a name of the face", !Modifier.isPrivate(m.getModifiers()) || !names.contains(m.getName()));
                isTrue(m + " has few parameters", m.getParameterCount() <= 7);
            }
            for (Field f : k.getDeclaredFields()) {
                boolean isConstant = Modifier.isFinal(f.getModifiers()) && f.getType() == int.class;
                isTrue(f + " if static is a constant", !Modifier.isStatic(f.getModifiers()) || isConstant);
            }
        }
    }

    private static void fileKeepsToTheLanguage() throws IOException {
        String code = Files.readString(Path.of("src/main/java/ChronicleWar.java"))
            .replaceAll("(?s)/\\*.*?\\*/", "").replaceAll("//.*", "");
        for (String word : FORBIDDEN) {
            String sought = Character.isLetter(word.charAt(0)) ? "\\b" + word + (word.endsWith(")") ? "" : "\\b") : word;
            isTrue("no " + word, !Pattern.compile(sought).matcher(code).find());
        }
        isTrue("one import", code.split("\\bimport\\b", -1).length == 2 && code.contains("import java.util.Arrays;"));
        methodsAreShort(code);
    }

    /** A method's last line is a brace as far in as its first one. */
    private static void methodsAreShort(String code) {
        Matcher method = Pattern.compile("(?ms)^( {4}| {8})(\\w[^\\n;=]*\\) \\{)$(.*?)^\\1\\}$").matcher(code);
        int many = 0;
        while (method.find()) {
            many++;
            isTrue(method.group(2) + " is short", method.group(3).split("\n", -1).length <= 60);
        }
        isTrue("methods were found: " + many, many > FACE.length);
    }
}
