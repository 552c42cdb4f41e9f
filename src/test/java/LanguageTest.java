import java.io.IOException;
import java.lang.reflect.Constructor;
import java.lang.reflect.Field;
import java.lang.reflect.Method;
import java.lang.reflect.Modifier;
import java.nio.charset.StandardCharsets;
import java.nio.file.Files;
import java.nio.file.Path;
import java.util.ArrayList;
import java.util.HashMap;
import java.util.HashSet;
import java.util.List;
import java.util.Map;
import java.util.Set;
import java.util.TreeSet;
import java.util.regex.Matcher;
import java.util.regex.Pattern;

/** The face of the document, and those rules of LANGUAGE.md that a reading by machine can see. */
public final class LanguageTest {
    private static final String[] FACE = {
        "int knot(long)", "int kind(int)", "int edge(int,int,long)", "int cut(int)",
        "int instead(int)", "int told(int,int)", "long weight(int)", "int count(int)",
        "long total()", "int together(int,int)", "int size(int)", "int member(int,int)",
        "int way(int,int)", "int between(int,int,int)", "int heaviest(int,int)",
        "long sum(int,int)", "long least(int,int)", "int add(int,int,long)", "long value(int)",
        "int set(int,long)", "int root(int)", "int below(int,int)", "int meet(int,int)",
        "long sumBelow(int)", "int addBelow(int,long)", "int undo()", "int put(int,int,int,int)",
        "int forge(int,int,int)", "int status()"};
    private static final Pattern HEAD = Pattern.compile(
            "(?m)^ +(?:public |private |static |final )*[\\w\\[\\]]+ (\\w+)\\(([^)]*)\\) \\{$");
    private static final Due d = new Due();

    public static void main(String[] args) throws IOException {
        String text = Files.readString(Path.of("src/main/java/ForestKeeper.java"),
                StandardCharsets.ISO_8859_1);
        String code = withoutComments(text);
        face();
        classes();
        words(text, code);
        methods(code);
        d.finish();
    }

    private static String withoutComments(String text) {
        return text.replaceAll("(?s)/\\*.*?\\*/", "").replaceAll("//[^\n]*", "");
    }

    private static void no(String rule, boolean broken) {
        d.is(rule, broken ? 1 : 0, 0);
    }

    private static void face() {
        Class<?> c = ForestKeeper.class;
        no("1: public and final", !Modifier.isPublic(c.getModifiers())
                || !Modifier.isFinal(c.getModifiers()));
        Set<String> open = new TreeSet<>();
        for (Method m : c.getDeclaredMethods()) {
            if (!Modifier.isPrivate(m.getModifiers())) {
                no("1: only public ones beside private ones: " + m,
                        m.getModifiers() != Modifier.PUBLIC);
                open.add(told(m));
            }
        }
        no("1: the face's methods: " + open, !open.equals(new TreeSet<>(List.of(FACE))));
        Constructor<?>[] made = c.getDeclaredConstructors();
        no("1: one public constructor without parameters", made.length != 1
                || made[0].getModifiers() != Modifier.PUBLIC || made[0].getParameterCount() != 0);
        Set<String> constants = new TreeSet<>();
        for (Field f : c.getDeclaredFields()) {
            if (!Modifier.isPrivate(f.getModifiers())) {
                constants.add(f.getType() + " " + f.getName());
            }
        }
        no("1: the face's constants: " + constants, !constants.equals(
                new TreeSet<>(List.of("int NONE", "int BAD", "int STATE", "int FULL", "long NO"))));
    }

    private static String told(Method m) {
        List<String> types = new ArrayList<>();
        for (Class<?> p : m.getParameterTypes()) {
            types.add(p.getName());
        }
        return m.getReturnType().getName() + " " + m.getName() + "(" + String.join(",", types) + ")";
    }

    private static void classes() {
        List<Class<?>> all = new ArrayList<>(List.of(ForestKeeper.class.getDeclaredClasses()));
        no("11: at most twelve classes", all.size() + 1 > 12);
        Set<String> faceNames = new HashSet<>();
        for (String s : FACE) {
            faceNames.add(s.replaceAll("^\\w+ (\\w+).*", "$1"));
        }
        for (Class<?> c : all) {
            int how = c.getModifiers();
            no("1, 2: static, not public: " + c, !Modifier.isStatic(how)
                    || Modifier.isPublic(how) || Modifier.isProtected(how));
        }
        all.add(ForestKeeper.class);
        for (Class<?> c : all) {
            for (Method m : c.getDeclaredMethods()) {
                no("1: a name of the face: " + m, faceNames.contains(m.getName())
                        && !Modifier.isPublic(m.getModifiers()));
                no("11: at most seven parameters: " + m, m.getParameterCount() > 7);
            }
            fields(c);
        }
    }

    private static void fields(Class<?> c) {
        int own = 0;
        for (Field f : c.getDeclaredFields()) {
            if (Modifier.isStatic(f.getModifiers())) {
                no("5: static ones are final numbers: " + f, !Modifier.isFinal(f.getModifiers())
                        || !f.getType().isPrimitive());
            } else {
                own++;
            }
        }
        no("11: at most twenty fields: " + c, own > 20);
    }

    private static void words(String text, String code) {
        for (int i = 0; i < text.length(); i++) {
            if (text.charAt(i) > 126) {
                no("3: plain signs", true);
            }
        }
        for (String word : List.of("throw", "throws", "try", "catch", "synchronized", "assert",
                "package", "goto", "volatile", "transient", "native", "strictfp", "var", "yield",
                "String", "Object", "Integer", "ArrayList", "List", "double", "float", "null")) {
            no("a word that this class does without: " + word,
                    Pattern.compile("\\b" + word + "\\b").matcher(code).find());
        }
        for (String sign : List.of("->", "::", "@", "\"", "while")) {
            no("a sign that this class does without: " + sign, code.contains(sign));
        }
        Matcher imports = Pattern.compile("(?m)^import (.*);$").matcher(code);
        while (imports.find()) {
            no("4: import " + imports.group(1), !imports.group(1).equals("java.util.Arrays"));
        }
        Matcher library = Pattern.compile("\\b(Arrays|Math|System|Long|Integer)\\.(\\w+)").matcher(code);
        while (library.find()) {
            no("4: " + library.group(), !Set.of("Arrays.fill", "Math.min").contains(library.group()));
        }
        Matcher filled = Pattern.compile("Arrays\\.fill\\((\\w+),").matcher(code);
        while (filled.find()) {
            no("4: fill is over numbers alone", code.contains("boolean[] " + filled.group(1) + " "));
        }
    }

    /** The body of a method, from the brace that opens it to the one that closes it. */
    private static String bodyAt(String code, int open) {
        int depth = 0;
        for (int i = open; i < code.length(); i++) {
            depth += code.charAt(i) == '{' ? 1 : code.charAt(i) == '}' ? -1 : 0;
            if (depth == 0) {
                return code.substring(open, i + 1);
            }
        }
        return code.substring(open);
    }

    private static void methods(String code) {
        // Methods of one name in several classes are taken as one that calls what each calls.
        Map<String, Set<String>> calls = new HashMap<>();
        Map<String, String> bodies = new HashMap<>();
        Matcher heads = HEAD.matcher(code);
        while (heads.find()) {
            String body = bodyAt(code, heads.end() - 1);
            no("11: at most sixty lines: " + heads.group(1), body.lines().count() > 60);
            bodies.merge(heads.group(1), body, String::concat);
        }
        d.is("methods were found", bodies.size() >= FACE.length + 30 ? 1 : 0, 1);
        for (String name : bodies.keySet()) {
            Matcher called = Pattern.compile("\\b(\\w+)\\(").matcher(bodies.get(name));
            Set<String> names = new HashSet<>();
            while (called.find()) {
                if (bodies.containsKey(called.group(1))) {
                    names.add(called.group(1));
                }
            }
            calls.put(name, names);
        }
        int deepest = 0;
        for (String name : calls.keySet()) {
            deepest = Math.max(deepest, depth(calls, name, 1));
        }
        System.out.println("calls go " + deepest + " deep");
        no("11: calls go at most eight deep", deepest > 8);
    }

    private static int depth(Map<String, Set<String>> calls, String name, int at) {
        if (at > 50) {
            return at;
        }
        int deepest = at;
        for (String next : calls.get(name)) {
            deepest = Math.max(deepest, depth(calls, next, at + 1));
        }
        return deepest;
    }
}
