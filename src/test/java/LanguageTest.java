import java.io.IOException;
import java.lang.reflect.Field;
import java.lang.reflect.Method;
import java.lang.reflect.Modifier;
import java.nio.charset.StandardCharsets;
import java.nio.file.Files;
import java.nio.file.Path;
import java.util.ArrayList;
import java.util.HashMap;
import java.util.HashSet;
import java.util.List;
import java.util.Map;
import java.util.Set;
import java.util.regex.Matcher;
import java.util.regex.Pattern;

/** Those rules of LANGUAGE.md that a reading by machine can see; FaceTest holds the face. */
public final class LanguageTest {
    private static final Pattern HEAD = Pattern.compile(
            "(?m)^ +(?:public |private |static |final )*[\\w\\[\\]]+ (\\w+)\\(([^)]*)\\) \\{$");
    private static final Due d = new Due();

    public static void main(String[] args) throws IOException {
        String text = Files.readString(Path.of("src/main/java/ForestKeeper.java"),
                StandardCharsets.ISO_8859_1);
        String code = withoutComments(text);
        Face face = new Face();
        classes(face);
        words(text, code);
        loops(code);
        divisors(code);
        madeThings(code);
        methods(code, face);
        d.finish();
    }

    private static String withoutComments(String text) {
        return text.replaceAll("(?s)/\\*.*?\\*/", "").replaceAll("//[^\n]*", "");
    }

    private static void no(String rule, boolean broken) {
        d.is(rule, broken ? 1 : 0, 0);
    }

    private static void classes(Face face) {
        List<Class<?>> all = new ArrayList<>(List.of(ForestKeeper.class.getDeclaredClasses()));
        no("11: at most twelve classes", all.size() + 1 > 12);
        for (Class<?> c : all) {
            int how = c.getModifiers();
            no("1, 2: static, not public: " + c, !Modifier.isStatic(how)
                    || Modifier.isPublic(how) || Modifier.isProtected(how));
        }
        all.add(ForestKeeper.class);
        for (Class<?> c : all) {
            for (Method m : c.getDeclaredMethods()) {
                no("1: a name of the face: " + m, face.names.contains(m.getName())
                        && !Modifier.isPublic(m.getModifiers()));
                no("11: at most seven parameters: " + m, m.getParameterCount() > 7);
            }
            fields(c);
        }
    }

    private static void fields(Class<?> c) {
        int own = 0;
        for (Field f : c.getDeclaredFields()) {
            if (Modifier.isStatic(f.getModifiers())) {
                no("5: static ones are final numbers: " + f, !Modifier.isFinal(f.getModifiers())
                        || !f.getType().isPrimitive());
            } else {
                own++;
            }
        }
        no("11: at most twenty fields: " + c, own > 20);
    }

    private static void words(String text, String code) {
        for (int i = 0; i < text.length(); i++) {
            if (text.charAt(i) > 126) {
                no("3: plain signs", true);
            }
        }
        for (String word : List.of("throw", "throws", "try", "catch", "synchronized", "assert",
                "package", "goto", "volatile", "transient", "native", "strictfp", "var", "yield",
                "String", "Object", "Integer", "ArrayList", "List", "double", "float", "null",
                "instanceof", "while", "do", "short", "byte", "char", "enum", "record",
                "interface", "abstract", "extends", "implements", "protected", "this", "super")) {
            no("a word that this class does without: " + word,
                    Pattern.compile("\\b" + word + "\\b").matcher(code).find());
        }
        for (String sign : List.of("->", "::", "@", "\"", "'", "[][]", "<>", "static {")) {
            no("a sign that this class does without: " + sign, code.contains(sign));
        }
        Matcher imports = Pattern.compile("(?m)^import (.*);$").matcher(code);
        while (imports.find()) {
            no("4: import " + imports.group(1), !imports.group(1).equals("java.util.Arrays"));
        }
        Matcher library = Pattern.compile("\\b(Arrays|Math|System|Long|Integer)\\.(\\w+)").matcher(code);
        while (library.find()) {
            no("4: " + library.group(), !Set.of("Arrays.fill", "Math.min").contains(library.group()));
        }
        Matcher filled = Pattern.compile("Arrays\\.fill\\((\\w+),").matcher(code);
        while (filled.find()) {
            no("4: fill is over numbers alone", code.contains("boolean[] " + filled.group(1) + " "));
        }
    }

    /** Rule 9: each loop counts, by one, against a bound that stands in its own head. */
    private static void loops(String code) {
        Matcher heads = Pattern.compile("\\bfor \\(([^;]*);([^;]*);([^{]*)\\) \\{").matcher(code);
        int found = 0;
        while (heads.find()) {
            found++;
            String head = heads.group();
            Matcher counter = Pattern.compile("int (\\w+) = ").matcher(heads.group(1));
            no("9: a counter: " + head, !counter.find());
            String name = counter.group(1);
            boolean up = heads.group(3).trim().equals(name + "++");
            boolean down = heads.group(3).trim().equals(name + "--");
            no("9: it counts: " + head, !up && !down);
            no("9: a bound: " + head, !Pattern.compile("(^|&& ) ?" + name + (up ? " <=? " : " >= ")
                    + "[\\w. *]+(&&.*)?$").matcher(heads.group(2)).find() || heads.group(2).contains("||"));
            String body = bodyAt(code, heads.end() - 1);
            no("9: the counter is left alone: " + head,
                    Pattern.compile("\\b" + name + " ?([-+*/]?=[^=]|\\+\\+|--)").matcher(body).find());
        }
        d.is("9: loops were found, and no other ones", found,
                Pattern.compile("\\bfor\\b").matcher(code).results().count());
        d.is("9: as many as are expected at least", found >= 20 ? 1 : 0, 1);
    }

    /** Rule 7: what divides is a number that is not 0, but for the one that is looked at. */
    private static void divisors(String code) {
        Matcher found = Pattern.compile("(\\S+) [/%]=? (\\w+)").matcher(code);
        while (found.find()) {
            boolean looked = code.contains("n == 0 ? refuse(BY_ZERO) : grant(1000 / n)")
                    && found.group().equals("grant(1000 / n");
            no("7: a divisor: " + found.group(),
                    !looked && !found.group(2).equals("2") && !found.group(2).equals("MOST_CHANGES"));
        }
        Matcher casts = Pattern.compile("\\((\\w+)\\) \\w").matcher(code);
        while (casts.find()) {
            no("6: a cast among objects: " + casts.group(), !casts.group(1).equals("int"));
        }
    }

    /** Rule 12: rows are made where fields are, with lengths that are constants. */
    private static void madeThings(String code) {
        Matcher found = Pattern.compile("(?m)^(.*)\\bnew (\\w+)([\\[(])([^\\])]*)").matcher(code);
        while (found.find()) {
            boolean field = found.group(1).matches(" +(private )?final [\\w\\[\\]]+ \\w+ = ");
            boolean tray = found.group().equals("            trays[i] = new Tray(");
            no("12: made by a call: " + found.group(), !field && !tray);
            no("7: a length: " + found.group(), found.group(3).equals("[")
                    && !found.group(4).matches("[A-Z_]+|2 \\* MOST_EDGES|MOST_EDGES \\* MOST_LEVEL"));
        }
    }

    /** The body of a method, from the brace that opens it to the one that closes it. */
    private static String bodyAt(String code, int open) {
        int depth = 0;
        for (int i = open; i < code.length(); i++) {
            depth += code.charAt(i) == '{' ? 1 : code.charAt(i) == '}' ? -1 : 0;
            if (depth == 0) {
                return code.substring(open, i + 1);
            }
        }
        return code.substring(open);
    }

    private static void methods(String code, Face face) {
        // Methods of one name in several classes are taken as one that calls what each calls.
        Map<String, Set<String>> calls = new HashMap<>();
        Map<String, String> bodies = new HashMap<>();
        Matcher heads = HEAD.matcher(code);
        while (heads.find()) {
            String body = bodyAt(code, heads.end() - 1);
            no("11: at most sixty lines: " + heads.group(1), body.lines().count() > 60);
            bodies.merge(heads.group(1), body, String::concat);
        }
        d.is("methods were found", bodies.size() >= face.names.size() + 30 ? 1 : 0, 1);
        for (String name : bodies.keySet()) {
            Matcher called = Pattern.compile("\\b(\\w+)\\(").matcher(bodies.get(name));
            Set<String> names = new HashSet<>();
            while (called.find()) {
                if (bodies.containsKey(called.group(1))) {
                    names.add(called.group(1));
                }
            }
            calls.put(name, names);
        }
        int deepest = 0;
        for (String name : calls.keySet()) {
            deepest = Math.max(deepest, depth(calls, name, 1));
        }
        System.out.println("calls go " + deepest + " deep");
        no("11: calls go at most eight deep", deepest > 8);
    }

    private static int depth(Map<String, Set<String>> calls, String name, int at) {
        if (at > 50) {
            return at;
        }
        int deepest = at;
        for (String next : calls.get(name)) {
            deepest = Math.max(deepest, depth(calls, next, at + 1));
        }
        return deepest;
    }
}
