import java.io.IOException;
import java.lang.reflect.Constructor;
import java.lang.reflect.Field;
import java.lang.reflect.Member;
import java.lang.reflect.Method;
import java.lang.reflect.Modifier;
import java.nio.charset.StandardCharsets;
import java.nio.file.Files;
import java.nio.file.Path;
import java.util.ArrayList;
import java.util.HashMap;
import java.util.HashSet;
import java.util.List;
import java.util.Map;
import java.util.Set;
import java.util.TreeSet;
import java.util.regex.Matcher;
import java.util.regex.Pattern;

/** The face that the document lists, and the rules of LANGUAGE.md as far as they can be told from the text. */
public final class LanguageTest {
    private static final Path SOURCE = Path.of("src/main/java/BoxHedge.java");
    private static final Path DOCUMENT = Path.of("../shared/DOC.md");
    private static final Set<String> LIBRARY = Set.of("String", "StringBuilder", "Integer", "Long", "Math", "System",
        "ArrayList", "List", "Arrays", "Override");
    private static final Pattern METHOD = Pattern.compile(
        "^( +)((?:public |private |static |final |abstract )*)([\\w\\[\\]<>]+ )?(\\w+)\\(([^)]*)\\) \\{\\n(.*?)^\\1\\}",
        Pattern.MULTILINE | Pattern.DOTALL);

    private static int wrong;

    public static void main(String[] args) throws IOException {
        Set<String> face = face();
        String code = bare(Files.readString(SOURCE));
        for (int k = 0; k < code.length(); k++) {
            check(code.charAt(k) < 128, "a sign above 127");
        }
        words(code);
        names(code);
        classes(face);
        methods(code);
        if (wrong != 0) {
            System.exit(1);
        }
    }

    private static void check(boolean fine, String what) {
        if (!fine) {
            wrong++;
            System.out.println(what);
        }
    }

    private static String bare(String source) {
        String code = source.replaceAll("(?s)/\\*.*?\\*/", "").replaceAll("//[^\n]*", "");
        return code.replaceAll("\"[^\"\n]*\"", "\"\"").replaceAll("'[^'\n]'", "' '");
    }

    /** The names of the public methods, when the face is the document's. */
    private static Set<String> face() throws IOException {
        String document = Files.readString(DOCUMENT, StandardCharsets.UTF_8);
        int start = document.indexOf("```java") + 7;
        String block = document.substring(start, document.indexOf("```", start));
        Set<String> told = new TreeSet<>();
        Set<String> names = new HashSet<>();
        Matcher m = Pattern.compile("public (\\w+) (\\w+)\\(([^)]*)\\);").matcher(block);
        while (m.find()) {
            names.add(m.group(2));
            told.add(m.group(1) + " " + m.group(2) + "(" + m.group(3).replaceAll("(\\w+) \\w+", "$1") + ")");
        }
        Set<String> found = new TreeSet<>();
        for (Method method : BoxHedge.class.getDeclaredMethods()) {
            if (Modifier.isPublic(method.getModifiers())) {
                List<String> types = new ArrayList<>();
                for (Class<?> type : method.getParameterTypes()) {
                    types.add(type.getName());
                }
                found.add(method.getReturnType() + " " + method.getName() + "(" + String.join(", ", types) + ")");
            }
        }
        check(told.size() == 39 && told.equals(found), "the document's face is " + told + ", the class's " + found);
        return names;
    }

    private static void words(String code) {
        String[] refused = {"throw", "throws", "try", "catch", "synchronized", "assert", "import", "package", "protected",
            "volatile", "transient", "native", "var", "toString", "equals", "hashCode", "this\\)", "double", "float", "random",
            "Thread", "\\w+Exact", "lambda", "yield"};
        for (String word : refused) {
            check(!Pattern.compile("\\b" + word + (word.endsWith(")") ? "" : "\\b")).matcher(code).find(), "the word " + word);
        }
        for (String sign : new String[] {"->", "::", "@", "\" +", "+ \"", "while (true)", "for (;;"}) {
            check(!code.contains(sign), "the sign " + sign);
        }
    }

    /** Each name of a type is one of our own classes, or one that the library's list holds. */
    private static void names(String code) {
        Set<String> own = new HashSet<>();
        Matcher m = Pattern.compile("\\bclass (\\w+)").matcher(code);
        while (m.find()) {
            own.add(m.group(1));
        }
        check(own.size() <= 12, "there are " + own.size() + " classes");
        m = Pattern.compile("\\b[A-Z]\\w*[a-z]\\w*").matcher(code);
        while (m.find()) {
            check(own.contains(m.group()) || LIBRARY.contains(m.group()), "the name " + m.group());
        }
    }

    private static void classes(Set<String> face) {
        List<Class<?>> all = new ArrayList<>(List.of(BoxHedge.class.getDeclaredClasses()));
        for (Class<?> inside : all) {
            check(Modifier.isStatic(inside.getModifiers()) && !Modifier.isPublic(inside.getModifiers()), inside + " is no such");
        }
        all.add(BoxHedge.class);
        for (Class<?> each : all) {
            int fields = 0;
            for (Field field : each.getDeclaredFields()) {
                boolean isStatic = Modifier.isStatic(field.getModifiers());
                fields += isStatic ? 0 : 1;
                check(!isStatic || Modifier.isFinal(field.getModifiers()), field + " is static and not final");
            }
            check(fields <= 20, each + " has " + fields + " fields");
            for (Method method : each.getDeclaredMethods()) {
                boolean isFace = each == BoxHedge.class && Modifier.isPublic(method.getModifiers());
                check(isFace || !face.contains(method.getName()), method + " bears a public one's name");
                check(method.getParameterCount() <= 7, method + " takes too much");
            }
        }
        List<Member> members = new ArrayList<>(List.of(BoxHedge.class.getDeclaredFields()));
        members.addAll(List.of(BoxHedge.class.getDeclaredMethods()));
        Set<String> constants = Set.of("NONE", "BAD", "STATE", "FULL", "NO");
        for (Member member : members) {
            boolean isFace = face.contains(member.getName()) && member instanceof Method || constants.contains(member.getName());
            check(isFace ? Modifier.isPublic(member.getModifiers()) : Modifier.isPrivate(member.getModifiers()), member + " is no such");
        }
        for (Constructor<?> constructor : BoxHedge.class.getDeclaredConstructors()) {
            check(Modifier.isPublic(constructor.getModifiers()) && constructor.getParameterCount() == 0, constructor + "");
        }
    }

    /** Lines of each method, what it makes, and how deep calls go; methods of one name are taken for one. */
    private static void methods(String code) {
        Map<String, Set<String>> calls = new HashMap<>();
        Matcher m = METHOD.matcher(code);
        while (m.find()) {
            String body = m.group(6);
            check(body.split("\n").length <= 60, m.group(4) + " is long");
            boolean isConstructor = m.group(3) == null;
            check(isConstructor || !Pattern.compile("\\bnew\\b|\\.clone\\(|\\bcopyOf").matcher(body).find(), m.group(4) + " makes something");
            Set<String> called = calls.computeIfAbsent(m.group(4), name -> new HashSet<>());
            Matcher c = Pattern.compile("(\\w+)\\(").matcher(body);
            while (c.find()) {
                called.add(c.group(1));
            }
        }
        check(calls.size() > 100, "only " + calls.size() + " methods are found");
        for (String name : calls.keySet()) {
            int depth = depth(name, calls, new HashSet<>());
            check(depth <= 8, name + " goes " + depth + " deep");
        }
    }

    private static int depth(String name, Map<String, Set<String>> calls, Set<String> open) {
        if (!calls.containsKey(name) || !open.add(name)) {
            return 0;
        }
        int deepest = 0;
        for (String called : calls.get(name)) {
            deepest = Math.max(deepest, depth(called, calls, open));
        }
        open.remove(name);
        return deepest + 1;
    }
}
