import java.io.IOException;
import java.lang.reflect.Field;
import java.lang.reflect.Method;
import java.lang.reflect.Modifier;
import java.nio.file.Files;
import java.nio.file.Path;
import java.util.ArrayList;
import java.util.Arrays;
import java.util.List;
import java.util.Set;
import java.util.TreeSet;
import java.util.regex.Matcher;
import java.util.regex.Pattern;

/**
 * The rules of ../shared/LANGUAGE.md that can be seen in the source's text or in the compiled classes. It forbids
 * nothing that those rules allow; what they tell as 'some' has a little room here.
 */
public final class LanguageTest {
    private static final int SOME_SIXTY_LINES = 70;
    private static final int SOME_TWENTY_FIELDS = 24;
    private static final int SOME_TWELVE_CLASSES = 14;
    private static int wrong = 0;

    private static void bad(int rule, String what) {
        wrong++;
        System.out.println("rule " + rule + ": " + what);
    }

    private static void none(int rule, String code, String pattern) {
        Matcher m = Pattern.compile(pattern).matcher(code);
        while (m.find()) {
            bad(rule, m.group() + " in line " + (code.substring(0, m.start()).split("\n", -1).length));
        }
    }

    /** The source with its comments and the insides of its texts as blanks. */
    private static String blanked(String source) {
        StringBuilder s = new StringBuilder(source);
        String aside = "/\\*.*?\\*/|//[^\n]*|\"(\\\\.|[^\"\\\\\n])*\"|'(\\\\.|[^'\\\\\n])*'";
        Matcher m = Pattern.compile(aside, Pattern.DOTALL).matcher(source);
        while (m.find()) {
            for (int i = m.start(); i < m.end(); i++) {
                if (s.charAt(i) != '\n') s.setCharAt(i, ' ');
            }
        }
        return s.toString();
    }

    private static void text(String source) {
        String code = blanked(source);
        for (int i = 0; i < source.length(); i++) {
            if (source.charAt(i) > 126) bad(4, "a sign " + (int) source.charAt(i));
        }
        none(1, code, "\\bpackage\\b");
        none(4, code, "\\bimport (?!java\\.util\\.(ArrayList|Arrays|Iterator|List|\\*);)[^\n]*");
        none(2, code, "::");
        none(2, code.replaceAll("\\b(case\\b[^;{}>]*|default\\s*)->", ""), "->");
        none(6, code, "\\b(throw|throws|try|catch|finally|synchronized|assert)\\b");
        none(6, code, "\\bhashCode\\s*\\(|\\b(boolean|String) (equals|toString)\\s*\\(");
        none(3, code, "\\b(Object|Map|Set|Optional)\\b");
        none(4, code, "\\w+Exact\\b|\\.(MAX_VALUE|MIN_VALUE)");
        none(5, code, "\\bstatic \\{");
        none(13, code, "\\b(Random|Thread|Runtime|nanoTime|currentTimeMillis|getenv|File)\\b");
        Matcher library = Pattern.compile("\\b(Math|Integer|Long|System|Arrays|List|String|Character|Boolean)\\.(\\w+)").matcher(code);
        String allowed = "Math\\.(min|max|abs|signum|floorDiv|floorMod)|(Integer|Long)\\.(compare|max|min|sum|signum|bitCount|"
                + "numberOf\\w+|highestOneBit|lowestOneBit|reverse|rotate\\w+)|System\\.arraycopy|Arrays\\.(copyOf|copyOfRange|fill)|List\\.of";
        while (library.find()) {
            if (!library.group().matches(allowed)) bad(4, library.group());
        }
        methods(code);
        long classes = Pattern.compile("\\b(class|enum|record|interface) [A-Z]").matcher(code).results().count();
        if (classes > SOME_TWELVE_CLASSES) bad(11, classes + " classes");
    }

    private static void methods(String code) {
        String[] lines = code.split("\n");
        int start = -1;
        for (int i = 0; i < lines.length; i++) {
            boolean heads = lines[i].matches(" {4}( {4})?(public |private )?(static )?[\\w\\[\\]]+( \\w+)?\\(.*\\) \\{");
            if (heads) {
                start = i;
                if (lines[i].split(",").length > 7) bad(11, "parameters in line " + (i + 1));
            }
            if (start >= 0 && lines[i].matches(" {4}( {4})?\\}")) {
                if (i - start + 1 > SOME_SIXTY_LINES) bad(11, "long method at line " + (start + 1));
                start = -1;
            }
        }
    }

    private static void faces() {
        String face = "wind village way feed end text fault by pay merge day played years undo ofWind ofVillage takes catches is "
                + "book foretold purse owed arrears broke whose odds least share voyage took whoseWind strengths vane sail sails "
                + "sure kind inKind calms strongest richest often worstDay image back about";
        Set<String> names = new TreeSet<>(Arrays.asList(face.split(" ")));
        Set<String> found = new TreeSet<>();
        for (Method m : OwedToWinds.class.getDeclaredMethods()) {
            if (Modifier.isPublic(m.getModifiers())) found.add(m.getName());
            else if (!Modifier.isPrivate(m.getModifiers()) && !m.isSynthetic()) bad(1, "neither public nor private: " + m);
        }
        if (!names.equals(found)) bad(1, "the face is " + found);
        for (Field f : OwedToWinds.class.getDeclaredFields()) {
            if (!Modifier.isPrivate(f.getModifiers()) && !f.getName().equals("NONE") && !f.isSynthetic()) bad(1, "a field " + f);
        }
        if (!Modifier.isFinal(OwedToWinds.class.getModifiers()) || OwedToWinds.class.getConstructors().length != 1) bad(1, "class");
        List<Class<?>> all = new ArrayList<>(Arrays.asList(OwedToWinds.class.getDeclaredClasses()));
        all.add(OwedToWinds.class);
        for (Class<?> c : all) {
            if (c != OwedToWinds.class && !Modifier.isStatic(c.getModifiers())) bad(2, c + " isn't static");
            int fields = 0;
            for (Field f : c.getDeclaredFields()) {
                boolean isStatic = Modifier.isStatic(f.getModifiers());
                fields += isStatic ? 0 : 1;
                if (isStatic && !Modifier.isFinal(f.getModifiers()) && !f.isSynthetic()) bad(5, "static " + f);
            }
            if (fields > SOME_TWENTY_FIELDS) bad(11, c + " has " + fields + " fields");
            for (Method m : c.getDeclaredMethods()) {
                if (Modifier.isPrivate(m.getModifiers()) && names.contains(m.getName())) bad(1, "a private " + m);
            }
        }
    }

    public static void main(String[] args) throws IOException {
        text(Files.readString(Path.of("src/main/java/OwedToWinds.java")));
        faces();
        System.out.println(wrong == 0 ? "the source keeps to the language" : wrong + " things are against the language");
        if (wrong != 0) System.exit(1);
    }
}
