import java.io.IOException;
import java.lang.reflect.Constructor;
import java.lang.reflect.Field;
import java.lang.reflect.Method;
import java.lang.reflect.Modifier;
import java.nio.charset.StandardCharsets;
import java.nio.file.Files;
import java.nio.file.Path;
import java.util.ArrayList;
import java.util.HashSet;
import java.util.List;
import java.util.Set;
import java.util.TreeSet;
import java.util.regex.Matcher;
import java.util.regex.Pattern;

/** What can be seen of the rules of LANGUAGE.md: the face, the sizes, and words that may not be used. */
public final class LanguageTest {
    private static final Path SOURCE = Path.of("src/main/java/Streamloom.java");
    private static final int MOST_LINES = 60;
    private static final int MOST_CLASSES = 12;
    private static final int MOST_FIELDS = 20;
    private static final int MOST_PARAMETERS = 7;

    private static final String[] FACE = {
        "type(char)", "wipe()", "fault()", "plan(boolean)", "event(int,int,int,int)", "bound(int,int)",
        "idle(int,boolean)", "table(int,int,int)", "step(int)", "watermark()", "read(int)", "tooLate()",
        "windows()", "window(int,int)", "results()", "committed()", "result(int,int)", "total(int,int)",
        "totalAnew(int,int)", "barrier()", "complete(int)", "doubtful()", "crash()", "workers(int)", "load(int)"};

    // A lambda, a method reference and a text joined by + are seen by their signs.
    private static final String[] BANNED = {
        "\\btry\\b", "\\bcatch\\b", "\\bfinally\\b", "\\bsynchronized\\b", "\\bassert\\b", "->", "::", "\\bvar\\b",
        "\\w+Exact\\b", "\"\\s*\\+", "\\+\\s*\"", "\\bstatic\\s*\\{", "\\bSystem\\.(?!arraycopy\\b)",
        "\\bhashCode\\b", "\\bequals\\b", "\\bgetMessage\\b", "\\bObject\\b", "\\bnew ArrayList<>\\(\\w",
        "\\bjava\\.(?!util\\.NoSuchElementException;)", "\\bThread\\b", "\\bRandom\\b", "\\bString\\.format\\b"};

    private static final Checks checks = new Checks("LanguageTest");

    public static void main(String[] args) throws IOException {
        String source = Files.readString(SOURCE, StandardCharsets.ISO_8859_1);
        face();
        List<Class<?>> classes = new ArrayList<>();
        collect(Streamloom.class, classes);
        names(classes);
        sizes(classes);
        banned(source);
        lengths(source);
        checks.end();
    }

    private static void holds(String what, boolean holds) {
        checks.due(what, holds ? 1 : 0, 1);
    }

    private static void collect(Class<?> type, List<Class<?>> all) {
        all.add(type);
        for (Class<?> inside : type.getDeclaredClasses()) {
            collect(inside, all);
        }
    }

    private static String signature(Method method) {
        List<String> types = new ArrayList<>();
        for (Class<?> type : method.getParameterTypes()) {
            types.add(type.getName());
        }
        return method.getName() + "(" + String.join(",", types) + ")";
    }

    private static void face() {
        Class<?> type = Streamloom.class;
        holds("public and final", Modifier.isPublic(type.getModifiers()) && Modifier.isFinal(type.getModifiers()));
        Set<String> seen = new TreeSet<>();
        Set<String> names = new HashSet<>();
        for (Method method : type.getDeclaredMethods()) {
            if (Modifier.isPublic(method.getModifiers())) {
                seen.add(signature(method));
                names.add(method.getName());
                holds(method + " answers int", method.getReturnType() == int.class);
            } else {
                holds(method + " is private", Modifier.isPrivate(method.getModifiers()));
            }
        }
        holds("the methods of the face: " + seen, seen.equals(new TreeSet<>(List.of(FACE))));
        for (Method method : type.getDeclaredMethods()) {
            holds(method + " bears no public name",
                    Modifier.isPublic(method.getModifiers()) || !names.contains(method.getName()));
        }
        Set<String> constants = new TreeSet<>();
        for (Field field : type.getDeclaredFields()) {
            if (Modifier.isPublic(field.getModifiers())) {
                constants.add(field.getName());
            } else {
                holds(field + " is private", Modifier.isPrivate(field.getModifiers()));
            }
        }
        holds("the constants of the face", constants.equals(Set.of("NONE", "SET", "ADD", "BACK")));
        Constructor<?>[] constructors = type.getDeclaredConstructors();
        holds("one public constructor", constructors.length == 1 && constructors[0].getParameterCount() == 0
                && Modifier.isPublic(constructors[0].getModifiers()));
    }

    private static void names(List<Class<?>> classes) {
        Set<String> names = new HashSet<>();
        for (String method : FACE) {
            names.add(method.substring(0, method.indexOf('(')));
        }
        for (Class<?> type : classes) {
            for (Method method : type.getDeclaredMethods()) {
                holds(method + " inside bears no name of the face",
                        type == Streamloom.class || !names.contains(method.getName()));
            }
        }
    }

    private static void sizes(List<Class<?>> classes) {
        holds(classes.size() + " classes", classes.size() <= MOST_CLASSES);
        for (Class<?> type : classes) {
            int fields = 0;
            for (Field field : type.getDeclaredFields()) {
                boolean isStatic = Modifier.isStatic(field.getModifiers());
                holds(field + " is final", !isStatic || Modifier.isFinal(field.getModifiers()));
                fields += isStatic ? 0 : 1;
                boolean isPlain = field.getType() == int.class || field.getType() == long.class
                        || field.getType() == boolean.class || field.getType() == String.class;
                holds(field + " in an enum", !type.isEnum() || isStatic || isPlain);
            }
            holds(fields + " fields in " + type, fields <= MOST_FIELDS);
            holds(type + " is the outer class, or static and not public", type == Streamloom.class
                    || Modifier.isStatic(type.getModifiers()) && !Modifier.isPublic(type.getModifiers()));
            for (Method method : type.getDeclaredMethods()) {
                holds(method + "'s parameters", method.getParameterCount() <= MOST_PARAMETERS);
            }
        }
    }

    private static void banned(String source) {
        String code = source.replaceAll("(?s)/\\*.*?\\*/", "").replaceAll("//[^\n]*", "");
        for (String pattern : BANNED) {
            Matcher matcher = Pattern.compile(pattern).matcher(code);
            holds("no " + pattern, !matcher.find());
        }
        holds("no package", !code.contains("package "));
        holds("signs up to 127", code.chars().allMatch(sign -> sign <= 127));
    }

    /** A method begins with a line that ends with a brace behind a parenthesis, at the depth of members. */
    private static void lengths(String source) {
        String[] lines = source.split("\n");
        Pattern head = Pattern.compile("^( {4}| {8})[A-Za-z].*\\).*\\{$");
        for (int i = 0; i < lines.length; i++) {
            Matcher matcher = head.matcher(lines[i]);
            if (matcher.find() && !lines[i].matches(" *(if|for|while|switch|else)\\b.*")) {
                int end = i;
                while (end < lines.length && !lines[end].equals(matcher.group(1) + "}")) {
                    end++;
                }
                holds(lines[i].trim() + " has " + (end - i + 1) + " lines", end - i + 1 <= MOST_LINES);
                i = end;
            }
        }
    }
}
