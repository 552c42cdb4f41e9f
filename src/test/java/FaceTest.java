import java.io.IOException;
import java.lang.reflect.Constructor;
import java.lang.reflect.Field;
import java.lang.reflect.Method;
import java.lang.reflect.Modifier;
import java.nio.charset.StandardCharsets;
import java.nio.file.Files;
import java.nio.file.Path;
import java.util.ArrayList;
import java.util.List;
import java.util.Map;
import java.util.Set;
import java.util.TreeMap;
import java.util.TreeSet;
import java.util.regex.Matcher;
import java.util.regex.Pattern;

/** What stands ahead of the Terms: what it is, its 512 calls, and the public face. */
public final class FaceTest {
    private static final String WHAT_IT_IS = "A forest keeper: edges come and go between knots, "
            + "a forest of them is kept (plain, with spare edges by levels, or of least weight), "
            + "sums and marks go along ways and below, and who hangs together is told whatever "
            + "went; things in trays meet the host's refusals.";
    private static final String HOW_LONG = "An object is used for at most 512 calls after it has "
            + "been made; what later calls answer is free.";
    private static final Due d = new Due();

    public static void main(String[] args) throws IOException, IllegalAccessException {
        Face face = new Face();
        shape();
        methods(face);
        constants(face);
        source(face);
        headings(face);
        whatItIs(face);
        allOfTheCalls(face);
        d.finish();
    }

    private static void yes(String what, boolean holds) {
        d.is(what, holds ? 1 : 0, 1);
    }

    private static void shape() {
        Class<?> c = ForestKeeper.class;
        yes("public, final and nothing else", c.getModifiers() == (Modifier.PUBLIC | Modifier.FINAL));
        yes("no class above it", c.getSuperclass() == Object.class);
        d.is("no interfaces", c.getInterfaces().length, 0);
        yes("no package", c.getPackageName().isEmpty());
        Constructor<?>[] made = c.getDeclaredConstructors();
        d.is("one constructor", made.length, 1);
        yes("a public one, without parameters, which throws nothing",
                made[0].getModifiers() == Modifier.PUBLIC && made[0].getParameterCount() == 0
                && made[0].getExceptionTypes().length == 0);
    }

    private static String told(Method m) {
        List<String> types = new ArrayList<>();
        for (Class<?> p : m.getParameterTypes()) {
            types.add(p.getName());
        }
        return m.getReturnType().getName() + " " + m.getName() + "(" + String.join(",", types) + ")";
    }

    private static void methods(Face face) {
        d.is("methods of the document's face", face.heads.size(), 29);
        yes("its constructor", face.hasConstructor);
        Set<String> open = new TreeSet<>();
        for (Method m : ForestKeeper.class.getDeclaredMethods()) {
            if (!Modifier.isPrivate(m.getModifiers())) {
                yes("public and nothing else: " + m, m.getModifiers() == Modifier.PUBLIC);
                d.is("throws nothing: " + m, m.getExceptionTypes().length, 0);
                open.add(told(m));
            }
        }
        yes("the face's methods and no other: " + open, open.equals(face.signatures()));
    }

    private static void constants(Face face) throws IllegalAccessException {
        Map<String, Long> open = new TreeMap<>();
        for (Field f : ForestKeeper.class.getDeclaredFields()) {
            if (!Modifier.isPrivate(f.getModifiers())) {
                yes("a constant: " + f, f.getModifiers()
                        == (Modifier.PUBLIC | Modifier.STATIC | Modifier.FINAL));
                open.put(f.getType() + " " + f.getName(), ((Number) f.get(null)).longValue());
            }
        }
        d.is("constants of the document's face", face.constants.size(), 5);
        yes("the face's constants and no other: " + open, open.equals(new TreeMap<>(face.constants)));
    }

    /** The names of parameters are the document's too. */
    private static void source(Face face) throws IOException {
        String code = Files.readString(Path.of("src/main/java/ForestKeeper.java"),
                StandardCharsets.ISO_8859_1);
        for (String head : face.heads) {
            yes("stands in the class: " + head, code.contains("    public " + head + " {\n"));
        }
    }

    /** Promise 1 is of the constructor; each other one of the face's next method. */
    private static void headings(Face face) {
        Matcher found = Pattern.compile("(?m)^## Promise (\\d+): (.*)\n\n`([^`]*)`:").matcher(face.doc);
        int at = 0;
        while (found.find()) {
            at++;
            d.is("the promise's number", Integer.parseInt(found.group(1)), at);
            String head = at == 1 ? "ForestKeeper()"
                    : at <= face.heads.size() + 1 ? face.heads.get(at - 2) : "none";
            String name = at == 1 ? "A new object" : head.replaceAll("^\\w+ (\\w+).*", "$1");
            yes("promise " + at + " is of " + head, found.group(3).equals(head));
            yes("promise " + at + " is called " + name, found.group(2).equals(name));
        }
        d.is("promises", at, 30);
    }

    private static void whatItIs(Face face) {
        yes("these words stand there: " + WHAT_IT_IS, face.doc.contains(WHAT_IT_IS));
        ForestKeeper[] kinds = new ForestKeeper[3];
        for (int kind = 0; kind < 3; kind++) {
            kinds[kind] = d.keeper(kind, 1, 2, 4);
            d.join(kinds[kind], 0, 1, 9, 1, 2, 8);
        }
        d.is("plain: no ring", kinds[0].edge(0, 2, 1), ForestKeeper.STATE);
        d.is("plain: an edge goes, none comes in", kinds[0].cut(0), ForestKeeper.NONE);
        d.is("and its knots hang no longer together", kinds[0].together(0, 1), 0);
        d.is("with spare edges", kinds[1].edge(0, 2, 1), 2);
        d.is("it is spare", kinds[1].told(2, 0), 2);
        d.is("an edge goes, the spare one comes in", kinds[1].cut(0), 2);
        d.is("who hangs together is told whatever went", kinds[1].together(0, 1), 1);
        d.is("of least weight", kinds[2].edge(0, 2, 1), 2);
        d.is("the lightest two are kept", kinds[2].total(), 9);
        d.is("a sum along a way", kinds[2].sum(0, 1), 7);
        d.is("a sum below", kinds[2].sumBelow(2), 6);
        d.is("a thing in a tray", kinds[2].put(0, 3, 0, 1), 1);
        d.is("the host's refusal", kinds[2].forge(0, 1, 0), -1);
        d.is("told", kinds[2].status(), 11);
    }

    /** The 512th call is answered as the first one is, whatever the 511 before it were. */
    private static void allOfTheCalls(Face face) {
        yes("these words stand there: " + HOW_LONG, face.doc.contains(HOW_LONG));
        for (int last = 0; last < 3; last++) {
            ForestKeeper x = d.keeper(1, 10, 20, 30);
            int calls = 4;
            for (int e = 0; e < 300; e++, calls++) {
                d.is("edge " + e, x.edge(e % 3, (e + 1) % 3, e), e);
            }
            for (; calls < 511; calls++) {
                d.is("root", x.root(calls % 3), calls == 304 ? 0 : (calls + 2) % 3);
            }
            calls++;
            d.is("calls", calls, 512);
            if (last == 0) {
                d.is("call 512: the least heir's number", x.cut(0), 2);
            } else if (last == 1) {
                d.is("call 512: FULL", x.edge(0, 1, 0), ForestKeeper.FULL);
            } else {
                d.is("call 512: changes", x.count(7), 20);
            }
        }
    }
}
