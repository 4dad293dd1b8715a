import java.io.IOException;
import java.lang.reflect.Constructor;
import java.lang.reflect.Field;
import java.lang.reflect.Method;
import java.lang.reflect.Modifier;
import java.nio.file.Files;
import java.nio.file.Path;
import java.util.ArrayList;
import java.util.List;
import java.util.Set;
import java.util.TreeSet;
import java.util.regex.Matcher;
import java.util.regex.Pattern;

/** The rules of LANGUAGE.md that can be seen from outside, and the face that the document tells. */
public final class LanguageTest {
    private static final Path SOURCE = Path.of("src/main/java/PennantLawn.java");
    private static final Path DOCUMENT = Path.of("../shared/DOC.md");
    private static final String[] FORBIDDEN = {"\\bthrow\\b", "\\btry\\b", "\\bcatch\\b", "\\bsynchronized\\b",
        "\\bassert\\b", "->", "::", "\\bimport\\b", "\\bpackage\\b", "\\bSystem\\.(?!arraycopy)", "\\bThread\\b",
        "Exact\\(", "\\bObject\\b", "\\bequals\\b", "\\bhashCode\\b", "\\btoString\\b", "\\bnew String\\b"};

    private static final int MOST_ROWS = 60;
    private static final int MOST_PARAMETERS = 7;

    private LanguageTest() {
    }

    public static void main(String[] args) throws IOException {
        String source = bare(Files.readString(SOURCE));
        for (String forbidden : FORBIDDEN) {
            Check.holds("without " + forbidden, !Pattern.compile(forbidden).matcher(source).find());
        }
        Check.holds("no texts joined by +", !source.contains("\" +") && !source.contains("+ \""));
        Check.holds("signs 1 to 127", source.chars().allMatch(sign -> sign > 0 && sign < 128));
        lengths(source);
        face();
        inside();
        Check.finish("LanguageTest");
    }

    private static String bare(String source) {
        return source.replaceAll("(?s)/\\*.*?\\*/", "").replaceAll("//[^\n]*", "");
    }

    /** Each method (and constructor) from its head to the brace that stands below it. */
    private static void lengths(String source) {
        Pattern head = Pattern.compile("^( +)((?:\\w+(?:\\[\\])* )*\\w+\\([^;]*\\)) \\{$");
        String open = null;
        String indent = "";
        int begun = 0;
        int heads = 0;
        String[] rows = source.split("\n");
        for (int i = 0; i < rows.length; i++) {
            Matcher matcher = head.matcher(rows[i]);
            if (open == null && matcher.matches() && matcher.group(1).length() <= 8) {
                open = matcher.group(2);
                indent = matcher.group(1);
                begun = i;
                heads++;
            } else if (open != null && rows[i].equals(indent + "}")) {
                Check.holds(open + " is short: " + (i - begun + 1), i - begun < MOST_ROWS);
                open = null;
            }
        }
        int methods = parts().stream().mapToInt(part -> part.getDeclaredMethods().length).sum();
        Check.holds("all methods were looked at: " + heads, heads >= methods);
    }

    private static List<Class<?>> parts() {
        List<Class<?>> parts = new ArrayList<>(List.of(PennantLawn.class.getDeclaredClasses()));
        parts.add(PennantLawn.class);
        return parts;
    }

    private static void face() throws IOException {
        String document = Files.readString(DOCUMENT);
        String block = document.substring(document.indexOf("public final class"), document.indexOf("## Terms"));
        Set<String> want = new TreeSet<>();
        Matcher matcher = Pattern.compile("public (int|long) (\\w+)\\(([^)]*)\\);").matcher(block);
        while (matcher.find()) {
            want.add(matcher.group(1) + " " + matcher.group(2) + " "
                    + matcher.group(3).replaceAll(" \\w+(,|$)", "$1").trim());
        }
        Check.due("methods told", want.size(), 74);
        Set<String> got = new TreeSet<>();
        Set<String> names = new TreeSet<>();
        for (Method method : PennantLawn.class.getDeclaredMethods()) {
            if (Modifier.isPublic(method.getModifiers())) {
                StringBuilder types = new StringBuilder();
                for (Class<?> type : method.getParameterTypes()) {
                    types.append(types.length() == 0 ? "" : ", ").append(type.getName());
                }
                got.add(method.getReturnType().getName() + " " + method.getName() + " " + types);
                names.add(method.getName());
            } else {
                Check.holds(method + " is private", Modifier.isPrivate(method.getModifiers()));
            }
        }
        Check.holds("the face: " + got + " against " + want, got.equals(want));
        for (Method method : PennantLawn.class.getDeclaredMethods()) {
            Check.holds(method + " has a public one's name",
                    Modifier.isPublic(method.getModifiers()) || !names.contains(method.getName()));
        }
        for (Class<?> part : PennantLawn.class.getDeclaredClasses()) {
            for (Method method : part.getDeclaredMethods()) {
                Check.holds(method + " has a public one's name", !names.contains(method.getName()));
            }
        }
    }

    private static void inside() {
        Constructor<?>[] constructors = PennantLawn.class.getDeclaredConstructors();
        Check.due("constructors", constructors.length, 1);
        Check.holds("public", Modifier.isPublic(constructors[0].getModifiers()));
        Check.holds("final", Modifier.isFinal(PennantLawn.class.getModifiers()));
        Check.holds("twelve classes", parts().size() <= 12);
        for (Class<?> part : parts()) {
            Check.holds(part + " is static", part == PennantLawn.class || Modifier.isStatic(part.getModifiers()));
            fields(part);
            parameters(part);
        }
    }

    private static void parameters(Class<?> part) {
        for (Method method : part.getDeclaredMethods()) {
            Check.holds(method + " has seven parameters at most", method.getParameterCount() <= MOST_PARAMETERS);
        }
        for (Constructor<?> constructor : part.getDeclaredConstructors()) {
            Check.holds(constructor + " has seven at most", constructor.getParameterCount() <= MOST_PARAMETERS);
        }
    }

    private static void fields(Class<?> part) {
        int own = 0;
        for (Field field : part.getDeclaredFields()) {
            int modifiers = field.getModifiers();
            Check.holds(field + " is of a type that is allowed", isAllowed(field.getType(), 0));
            if (Modifier.isStatic(modifiers)) {
                Check.holds(field + " is final", Modifier.isFinal(modifiers));
            } else {
                own++;
            }
            if (part == PennantLawn.class) {
                Check.holds(field + " is private", Modifier.isPrivate(modifiers) || field.getName().equals("NONE"));
            }
        }
        Check.holds(part + " has some twenty fields: " + own, own <= 20);
    }

    /** Numbers, texts, own classes and rows of these; of two dimensions numbers alone. */
    private static boolean isAllowed(Class<?> type, int dimensions) {
        if (type.isArray()) {
            return isAllowed(type.getComponentType(), dimensions + 1);
        }
        return type.isPrimitive() && dimensions <= 2
                || (type == String.class || parts().contains(type)) && dimensions <= 1;
    }
}
