import java.lang.reflect.Constructor;
import java.lang.reflect.Executable;
import java.lang.reflect.Field;
import java.lang.reflect.Method;
import java.lang.reflect.Modifier;
import java.nio.charset.StandardCharsets;
import java.nio.file.Files;
import java.nio.file.Path;
import java.util.Arrays;
import java.util.List;
import java.util.TreeSet;
import java.util.regex.Matcher;
import java.util.regex.Pattern;

/** Rules of LANGUAGE.md that a look at the source and the classes can hold the program to. */
public final class LanguageTest {
    private static final String FACE = "best/2 blackest/0 breaks/1 calm/1 cheapest/1 chimney/2 copy/1 count/1 fault/1 feed/5 "
        + "free/1 gusts/1 higher/1 image/1 judge/2 light/2 most/2 numbers/3 out/1 pair/1 pays/1 perform/1 plan/1 plans/0 "
        + "price/2 puff/4 puffs/1 restore/1 sheet/3 sheets/1 shut/0 sky/0 smoke/3 soot/1 steady/1 sure/1 thickness/0 "
        + "touch/2 touching/2 town/1 wind/2 worth/2 write/3";

    private LanguageTest() {
    }

    private static void holds(String rule, boolean is) {
        Check.due(rule, is ? 1 : 0, 1);
    }

    public static void main(String[] args) throws Exception {
        String source = Files.readString(Path.of("src/main/java/SmokesApart.java"), StandardCharsets.ISO_8859_1);
        String code = source.replaceAll("(?s)/\\*.*?\\*/", "").replaceAll("//[^\n]*", "").replaceAll("\"[^\"\n]*\"", "\"\"");
        source(code);
        face();
        TreeSet<String> publicNames = new TreeSet<>();
        for (String m : FACE.split(" ")) publicNames.add(m.split("/")[0]);
        shape(SmokesApart.class, publicNames);
        Class<?>[] inside = SmokesApart.class.getDeclaredClasses();
        for (Class<?> c : inside) {
            holds(c + " is static", Modifier.isStatic(c.getModifiers()));
            shape(c, publicNames);
        }
        holds("twelve classes at most", inside.length + 1 <= 12);
        Check.end();
    }

    private static void source(String code) {
        for (String word : "throw throws try catch synchronized assert double float protected yield volatile Object".split(" "))
            holds("no " + word, !Pattern.compile("\\b" + word + "\\b").matcher(code).find());
        for (String sign : new String[] {"->", "::", "Exact(", "@", "Math.random", "System.out", "\""})
            holds("no " + sign, !code.replace("\"\"", "").contains(sign));
        holds("no package", !code.contains("package "));
        Matcher imports = Pattern.compile("import ([^;]*);").matcher(code);
        while (imports.find()) holds("import " + imports.group(1), List.of("java.util.Arrays").contains(imports.group(1)));
        holds("only known signs", code.chars().allMatch(c -> c == 10 || c >= 32 && c < 127));
        Matcher statics = Pattern.compile("\\bstatic (?!final )(?!boolean |int |long |void )").matcher(code);
        holds("static fields are final", !statics.find());
        lengths(code);
    }

    /** A method's body goes from its head, four or eight blanks deep, to the brace of the same depth. */
    private static void lengths(String code) {
        String[] lines = code.split("\n");
        for (int i = 0; i < lines.length; i++) {
            Matcher head = Pattern.compile("^( {4}| {8})(?!private static final class)[a-zA-Z].*\\) \\{$").matcher(lines[i]);
            if (!head.matches()) continue;
            int end = i;
            while (end < lines.length - 1 && !lines[end].equals(head.group(1) + "}")) end++;
            holds("sixty lines at most: " + lines[i].trim(), end - i <= 60);
        }
    }

    private static void face() {
        TreeSet<String> open = new TreeSet<>();
        for (Method m : SmokesApart.class.getDeclaredMethods()) {
            if (m.isSynthetic()) continue;
            if (Modifier.isPrivate(m.getModifiers())) continue;
            holds(m + " is public", Modifier.isPublic(m.getModifiers()) && !Modifier.isStatic(m.getModifiers()));
            open.add(m.getName() + "/" + m.getParameterCount());
            holds(m + " answers a number", m.getReturnType() == (m.getName().equals("write") ? long.class : int.class));
        }
        holds("the face: " + open, open.equals(new TreeSet<>(Arrays.asList(FACE.split(" ")))));
        for (Field f : SmokesApart.class.getDeclaredFields())
            holds(f + " is private", f.getName().equals("NONE") || Modifier.isPrivate(f.getModifiers()));
        Constructor<?>[] made = SmokesApart.class.getDeclaredConstructors();
        holds("one constructor", made.length == 1 && made[0].getParameterCount() == 0 && Modifier.isPublic(made[0].getModifiers()));
        holds("final", Modifier.isFinal(SmokesApart.class.getModifiers()));
    }

    private static void shape(Class<?> c, TreeSet<String> publicNames) {
        int fields = 0;
        for (Field f : c.getDeclaredFields()) {
            if (!Modifier.isStatic(f.getModifiers())) fields++;
            else holds(f + " is final", Modifier.isFinal(f.getModifiers()));
        }
        holds(c + " has twenty fields at most", fields <= 20);
        for (Method m : c.getDeclaredMethods()) {
            parameters(m);
            if (c != SmokesApart.class || Modifier.isPrivate(m.getModifiers()))
                holds(m + " bears no public name", !publicNames.contains(m.getName()));
        }
        for (Constructor<?> m : c.getDeclaredConstructors()) parameters(m);
    }

    private static void parameters(Executable m) {
        holds(m + " takes seven at most", m.getParameterCount() <= 7);
    }
}
