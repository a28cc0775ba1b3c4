import java.io.IOException;
import java.lang.reflect.Constructor;
import java.lang.reflect.Field;
import java.lang.reflect.Method;
import java.lang.reflect.Modifier;
import java.nio.file.Files;
import java.nio.file.Path;
import java.util.ArrayList;
import java.util.List;
import java.util.Set;
import java.util.TreeSet;
import java.util.regex.Matcher;
import java.util.regex.Pattern;

/** The rules of ../shared/LANGUAGE.md that can be seen from the source's words or by reflection. Arguments: the source, the document. */
public final class LanguageTest {
    private static int passed = 0;
    private static int failed = 0;

    public static void main(String[] args) throws IOException {
        String source = Files.readString(Path.of(args[0]));
        String document = Files.readString(Path.of(args[1]));
        faceIsTheDocuments(document);
        List<Class<?>> classes = new ArrayList<>(List.of(TwoFaces.class));
        classes.addAll(List.of(TwoFaces.class.getDeclaredClasses()));
        due("classes are some twelve", classes.size() <= 12);
        Set<String> publicNames = new TreeSet<>();
        for (Method m : TwoFaces.class.getDeclaredMethods()) {
            if (Modifier.isPublic(m.getModifiers())) {
                publicNames.add(m.getName());
            }
        }
        for (Class<?> c : classes) {
            membersOf(c, publicNames);
        }
        wordsOf(withoutTexts(source));
        methodLengths(source);
        madeByCalls(withoutTexts(source));
        System.out.println(passed + " passed, " + failed + " failed");
        if (failed != 0) {
            System.exit(1);
        }
    }

    private static void due(String what, boolean holds) {
        if (holds) {
            passed++;
        } else {
            failed++;
            System.out.println("  not so: " + what);
        }
    }

    private static void faceIsTheDocuments(String document) {
        String face = document.substring(document.indexOf("```java"), document.indexOf("## Terms"));
        Set<String> wanted = new TreeSet<>();
        Matcher m = Pattern.compile("public (int|boolean) (\\w+)\\((.*?)\\);").matcher(face);
        while (m.find()) {
            int parameters = m.group(3).isEmpty() ? 0 : m.group(3).split(",").length;
            wanted.add(m.group(1) + " " + m.group(2) + " " + parameters);
        }
        Set<String> found = new TreeSet<>();
        for (Method method : TwoFaces.class.getDeclaredMethods()) {
            if (!Modifier.isPrivate(method.getModifiers())) {
                due(method + " is public and no static one", Modifier.isPublic(method.getModifiers()) && !Modifier.isStatic(method.getModifiers()));
                found.add(method.getReturnType() + " " + method.getName() + " " + method.getParameterCount());
                for (Class<?> type : method.getParameterTypes()) {
                    due(method + " takes ints", type == int.class);
                }
            }
        }
        due("33 methods are told", wanted.size() == 33);
        due("the face is " + wanted + " and not " + found, wanted.equals(found));
        Constructor<?>[] made = TwoFaces.class.getDeclaredConstructors();
        due("one public constructor without parameters", made.length == 1 && made[0].getParameterCount() == 0 && Modifier.isPublic(made[0].getModifiers()));
        due("public and final", Modifier.isPublic(TwoFaces.class.getModifiers()) && Modifier.isFinal(TwoFaces.class.getModifiers()));
        for (Field field : TwoFaces.class.getDeclaredFields()) {
            due(field + " is private, or NONE", Modifier.isPrivate(field.getModifiers()) || field.getName().equals("NONE"));
        }
    }

    private static void membersOf(Class<?> c, Set<String> publicNames) {
        due(c + " is static", c == TwoFaces.class || Modifier.isStatic(c.getModifiers()));
        due(c + " is neither public nor protected", c == TwoFaces.class || !Modifier.isPublic(c.getModifiers()) && !Modifier.isProtected(c.getModifiers()));
        due(c + " has no classes inside", c == TwoFaces.class || c.getDeclaredClasses().length == 0);
        int fields = 0;
        for (Field field : c.getDeclaredFields()) {
            boolean isStatic = Modifier.isStatic(field.getModifiers());
            fields += isStatic ? 0 : 1;
            due(field + " is final or of an object", !isStatic || Modifier.isFinal(field.getModifiers()));
            Class<?> type = field.getType();
            due(field + " is a plain constant", !isStatic || type == int.class || type == String.class || type == long.class);
        }
        due(c + " has some twenty fields", fields <= 20);
        for (Method method : c.getDeclaredMethods()) {
            due(method + " takes no more than seven", method.getParameterCount() <= 7);
            boolean ofFace = c == TwoFaces.class && Modifier.isPublic(method.getModifiers());
            due(method + " has a name of its own", ofFace || !publicNames.contains(method.getName()));
        }
    }

    private static String withoutTexts(String source) {
        return source.replaceAll("//[^\n]*", "").replaceAll("(?s)/\\*.*?\\*/", "").replaceAll("\"[^\"\n]*\"", "\"\"").replaceAll("'[^'\n]+'", "'x'");
    }

    private static void wordsOf(String code) {
        for (String word : "package import throw try catch finally synchronized assert volatile transient native strictfp var record enum yield goto".split(" ")) {
            due("no " + word, !Pattern.compile("\\b" + word + "\\b").matcher(code).find());
        }
        due("no lambda and no arrow", !code.contains("->"));
        due("no method reference", !code.contains("::"));
        due("no annotation", !code.contains("@"));
        due("no other class's part than System.arraycopy and Math's", only(code, "System\\.(\\w+)", Set.of("arraycopy"))
            && only(code, "Math\\.(\\w+)", Set.of("abs", "min", "max")));
        due("no text is joined by +", !code.contains("\"\" +") && !code.contains("+ \"\""));
        due("no while", !Pattern.compile("\\bwhile\\b").matcher(code).find());
    }

    private static boolean only(String code, String pattern, Set<String> allowed) {
        Matcher m = Pattern.compile(pattern).matcher(code);
        while (m.find()) {
            if (!allowed.contains(m.group(1))) {
                return false;
            }
        }
        return true;
    }

    /** A method's first line ends with an opening brace, and its last is a brace as far in. */
    private static void methodLengths(String source) {
        String[] lines = source.split("\n");
        for (int i = 0; i < lines.length; i++) {
            Matcher m = Pattern.compile("^( {4}| {8})(?! )[\\w\\[\\] ]+\\(.*\\) \\{$").matcher(lines[i]);
            if (m.matches()) {
                int end = i;
                while (!lines[end].equals(m.group(1) + "}")) {
                    end++;
                }
                due("some sixty lines: " + lines[i].trim(), end - i < 60);
            }
        }
    }

    /** Rows are made in constructors; a call makes no more than the reader of its text, so that the room holds all calls of a run. */
    private static void madeByCalls(String code) {
        int readers = 0;
        for (String line : code.split("\n")) {
            if (Pattern.compile("\\bnew\\b").matcher(line).find()) {
                boolean isField = line.matches(" {4}( {4})?private final [\\w\\[\\]]+ \\w+ = new [^;]*;");
                boolean isBox = line.trim().equals("boxes[i] = new Papers();");
                boolean isReader = line.contains("new TownText(") || line.contains("new RulesText(");
                readers += isReader ? 1 : 0;
                due("made in a constructor: " + line.trim(), isField || isBox || isReader);
            }
        }
        due("two readers", readers == 2);
    }
}
