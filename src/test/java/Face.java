import java.io.IOException;
import java.nio.charset.StandardCharsets;
import java.nio.file.Files;
import java.nio.file.Path;
import java.util.ArrayList;
import java.util.LinkedHashMap;
import java.util.List;
import java.util.Map;
import java.util.Set;
import java.util.TreeSet;
import java.util.regex.Matcher;
import java.util.regex.Pattern;

/** The public face as the document's own block of Java tells it. */
final class Face {
    private static final Pattern METHOD = Pattern.compile("public (int|long) (\\w+)\\(([^)]*)\\);");
    private static final Pattern CONSTANTS =
            Pattern.compile("public static final (int|long) ([^;]*);");

    final String doc;
    /** As the document writes them, in its order: "int edge(int a, int b, long weight)". */
    final List<String> heads = new ArrayList<>();
    final Set<String> names = new TreeSet<>();
    /** Type and name of each constant, with its value. */
    final Map<String, Long> constants = new LinkedHashMap<>();
    final boolean hasConstructor;

    Face() throws IOException {
        doc = Files.readString(Path.of("../shared/DOC.md"), StandardCharsets.UTF_8);
        int from = doc.indexOf("```java");
        int to = doc.indexOf("```", from + 1);
        if (from < 0 || to < 0) {
            throw new IllegalStateException("the document has no block of Java");
        }
        String block = doc.substring(from, to);
        hasConstructor = block.contains("public ForestKeeper();");
        Matcher methods = METHOD.matcher(block);
        while (methods.find()) {
            heads.add(methods.group(1) + " " + methods.group(2) + "(" + methods.group(3) + ")");
            names.add(methods.group(2));
        }
        Matcher rows = CONSTANTS.matcher(block);
        while (rows.find()) {
            for (String one : rows.group(2).split(", ")) {
                String[] sides = one.split(" = ");
                constants.put(rows.group(1) + " " + sides[0], Long.parseLong(sides[1].replace("L", "")));
            }
        }
    }

    /** Without the names of parameters: "int edge(int,int,long)". */
    Set<String> signatures() {
        Set<String> found = new TreeSet<>();
        for (String head : heads) {
            found.add(head.replaceAll("(int|long) \\w+([,)]) ?", "$1$2"));
        }
        return found;
    }
}
