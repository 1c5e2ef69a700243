import java.io.IOException;
import java.lang.reflect.Field;
import java.lang.reflect.Method;
import java.lang.reflect.Modifier;
import java.nio.file.Files;
import java.nio.file.Path;
import java.util.ArrayList;
import java.util.Arrays;
import java.util.List;
import java.util.Set;
import java.util.TreeSet;
import java.util.regex.Matcher;
import java.util.regex.Pattern;

/** The rules of ../shared/LANGUAGE.md that can be seen in the source's text or in the compiled classes. */
public final class LanguageTest {
    private static int wrong = 0;

    private static void bad(int rule, String what) {
        wrong++;
        System.out.println("rule " + rule + ": " + what);
    }

    private static void none(int rule, String code, String pattern) {
        Matcher m = Pattern.compile(pattern).matcher(code);
        while (m.find()) {
            bad(rule, m.group() + " in line " + (code.substring(0, m.start()).split("\n", -1).length));
        }
    }

    private static String blanked(String source) {
        StringBuilder s = new StringBuilder(source);
        Matcher m = Pattern.compile("/\\*.*?\\*/|//[^\n]*|\"[^\"\n]*\"|'[^'\n]*'", Pattern.DOTALL).matcher(source);
        while (m.find()) {
            for (int i = m.start(); i < m.end(); i++) {
                if (s.charAt(i) != '\n') s.setCharAt(i, ' ');
            }
        }
        return s.toString();
    }

    private static void text(String source) {
        String code = blanked(source);
        for (int i = 0; i < source.length(); i++) {
            if (source.charAt(i) != '\n' && (source.charAt(i) < 32 || source.charAt(i) > 126)) bad(4, "a sign " + (int) source.charAt(i));
        }
        none(1, code, "\\b(import|package)\\b");
        none(2, code, "->|::");
        none(6, code, "\\b(throw|throws|try|catch|finally|synchronized|assert|instanceof)\\b");
        none(6, code, "\\b(equals|hashCode|toString)\\s*\\(");
        none(3, code, "\\b(Object|Map|Set|Iterator|Optional|double|float)\\b");
        none(4, code, "\\w+Exact\\b|\\.(MAX_VALUE|MIN_VALUE)");
        none(13, code, "\\b(Random|Thread|Runtime|nanoTime|currentTimeMillis|getenv|File)\\b");
        Matcher library = Pattern.compile("\\b(Math|Integer|Long|System|Arrays|String|Character)\\.(\\w+)").matcher(code);
        Set<String> allowed = new TreeSet<>(Arrays.asList("Math.min", "Math.max", "Math.abs", "Math.floorDiv",
                "Integer.bitCount", "Integer.numberOfTrailingZeros", "System.arraycopy"));
        while (library.find()) {
            if (!allowed.contains(library.group())) bad(4, library.group());
        }
        methods(code);
        // Nothing is made but with the object itself, so that a run's room doesn't depend on its calls.
        Matcher made = Pattern.compile("\n( *)(.*)\\bnew\\b").matcher(code);
        while (made.find()) {
            boolean field = made.group(2).matches("(private )?(static )?final [\\w\\[\\]]+ \\w+ = .*") && made.group(1).length() <= 8;
            boolean constructor = made.group(2).matches("(texts\\[i\\]|laws|days|foresight|riddles) = ");
            if (!field && !constructor) bad(12, "made in a method: " + made.group(2));
        }
        if (Pattern.compile("\\bclass\\b|\\benum\\b|\\brecord\\b|\\binterface\\b").matcher(code).results().count() > 12) bad(11, "too many classes");
    }

    private static void methods(String code) {
        String[] lines = code.split("\n");
        int start = -1;
        for (int i = 0; i < lines.length; i++) {
            boolean heads = lines[i].matches(" {4}( {4})?(public |private )?(static )?[\\w\\[\\]]+( \\w+)?\\(.*\\) \\{");
            if (heads) {
                start = i;
                if (lines[i].split(",").length > 7) bad(11, "parameters in line " + (i + 1));
            }
            if (start >= 0 && lines[i].matches(" {4}( {4})?\\}")) {
                if (i - start + 1 > 60) bad(11, "long method at line " + (start + 1));
                start = -1;
            }
        }
    }

    private static void faces() {
        String face = "wind village way feed end text fault by pay merge day played years undo ofWind ofVillage takes catches is "
                + "book foretold purse owed arrears broke whose odds least share voyage took whoseWind strengths vane sail sails "
                + "sure kind inKind calms strongest richest often worstDay image back about";
        Set<String> names = new TreeSet<>(Arrays.asList(face.split(" ")));
        Set<String> found = new TreeSet<>();
        for (Method m : OwedToWinds.class.getDeclaredMethods()) {
            if (Modifier.isPublic(m.getModifiers())) found.add(m.getName());
            else if (!Modifier.isPrivate(m.getModifiers())) bad(1, "neither public nor private: " + m);
            else if (names.contains(m.getName())) bad(1, "a private " + m);
        }
        if (!names.equals(found)) bad(1, "the face is " + found);
        for (Field f : OwedToWinds.class.getDeclaredFields()) {
            if (!Modifier.isPrivate(f.getModifiers()) && !f.getName().equals("NONE")) bad(1, "a field " + f);
        }
        if (!Modifier.isFinal(OwedToWinds.class.getModifiers()) || OwedToWinds.class.getConstructors().length != 1) bad(1, "class");
        List<Class<?>> all = new ArrayList<>(Arrays.asList(OwedToWinds.class.getDeclaredClasses()));
        all.add(OwedToWinds.class);
        for (Class<?> c : all) {
            if (c != OwedToWinds.class && !Modifier.isStatic(c.getModifiers())) bad(2, c + " isn't static");
            int fields = 0;
            for (Field f : c.getDeclaredFields()) {
                boolean isStatic = Modifier.isStatic(f.getModifiers());
                fields += isStatic ? 0 : 1;
                if (isStatic && !Modifier.isFinal(f.getModifiers())) bad(5, "static " + f);
            }
            if (fields > 20) bad(11, c + " has " + fields + " fields");
            for (Method m : c.getDeclaredMethods()) {
                if (c != OwedToWinds.class && names.contains(m.getName())) bad(1, "another " + m);
            }
        }
    }

    public static void main(String[] args) throws IOException {
        text(Files.readString(Path.of("src/main/java/OwedToWinds.java")));
        faces();
        System.out.println(wrong == 0 ? "the source keeps to the language" : wrong + " things are against the language");
        if (wrong != 0) System.exit(1);
    }
}
