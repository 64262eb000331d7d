import java.io.IOException;
import java.lang.reflect.Constructor;
import java.lang.reflect.InvocationTargetException;
import java.lang.reflect.Method;
import java.lang.reflect.Modifier;
import java.nio.file.Files;
import java.nio.file.Path;
import java.util.ArrayList;
import java.util.HashMap;
import java.util.List;
import java.util.Map;
import java.util.TreeSet;
import java.util.regex.Matcher;
import java.util.regex.Pattern;

/** What README.md says: its calls are the document's and the class's, its examples and texts answer so, its tests are all. */
public final class ReadmeTests extends Edges {
    private static final int CALLS = 43;
    private static final Pattern CALL = Pattern.compile("(?m)^(\\d+)\\. `((?:\\w+ )?(\\w+)\\(.*)`: (.*)$");
    private static final Pattern PROMISE = Pattern.compile("(?m)^## Promise (\\d+): .*\\n\\n(`.*)$");
    private static final Pattern EXAMPLE = Pattern.compile("joy\\.(\\w+)\\((.*)\\); // (-?\\w+)\\b.*");
    private static final Pattern FED = Pattern.compile("feed\\(joy, \"(.*)\"\\);");
    private static final Pattern TEXT = Pattern.compile("(?m)^\\| `(.*)` \\| ([01]) \\| (-?\\d+) \\|$");
    private static final Pattern ITEM = Pattern.compile("(?m)^\\| `([vdw])` \\| `(\\w)` \\| .* \\| 0(?: to|,) (\\d+) \\| (\\d) \\|$");
    private static final Pattern TEST = Pattern.compile("`([A-Z]\\w+)`");

    private static final Map<String, Integer> promises = new HashMap<>();

    public static void main(String[] args) throws IOException {
        String readme = Files.readString(Path.of("README.md"));
        calls(readme);
        document(readme);
        face();
        helper(readme);
        examples(readme);
        items(readme);
        texts(readme);
        tests(readme);
        int[] all = new int[CALLS];
        for (int i = 0; i < CALLS; i++) {
            all[i] = i + 1;
        }
        finish(all);
    }

    private static String spaced(String text) {
        return text.replaceAll("\\s+", " ").trim();
    }

    /** Without the names of parameters: the class does not keep them. */
    private static String bare(String signature) {
        return signature.replaceAll("(int|long|boolean) \\w+(?=[,)])", "$1");
    }

    private static String signature(Method m) {
        StringBuilder b = new StringBuilder(m.getReturnType().getSimpleName()).append(' ').append(m.getName()).append('(');
        for (int i = 0; i < m.getParameterCount(); i++) {
            b.append(i > 0 ? ", " : "").append(m.getParameterTypes()[i].getSimpleName());
        }
        b.append(')');
        for (Class<?> thrown : m.getExceptionTypes()) {
            b.append(" throws ").append(thrown.getSimpleName());
        }
        return b.toString();
    }

    private static void calls(String readme) {
        Map<String, String> faces = new HashMap<>();
        for (Method m : OneJoy.class.getDeclaredMethods()) {
            if (Modifier.isPublic(m.getModifiers())) {
                faces.put(m.getName(), signature(m));
            }
        }
        faces.put("OneJoy", "OneJoy()");
        Matcher m = CALL.matcher(readme);
        int told = 0;
        while (m.find()) {
            told++;
            int promise = Integer.parseInt(m.group(1));
            String name = m.group(3);
            String signature = bare(m.group(2));
            promises.put(name, promise);
            edge(promise, name + " is told in its place, as the class has it", () ->
                due(faces.getOrDefault(name, "no such call"), signature));
        }
        int numbers = told;
        edge(1, "README tells each call, and no more than there are", () -> {
            due(CALLS, numbers);
            due(CALLS, faces.size());
            due(CALLS, promises.size());
        });
    }

    private static void document(String readme) throws IOException {
        Path path = Path.of("../shared/DOC.md");
        if (!Files.isReadable(path)) {
            System.out.println("no document here: README is not held against its words");
            return;
        }
        String doc = Files.readString(path);
        Matcher m = PROMISE.matcher(doc);
        while (m.find()) {
            int promise = Integer.parseInt(m.group(1));
            String line = "\n" + promise + ". " + m.group(2) + "\n";
            edge(promise, "README says the promise in the document's words", () -> yes(readme.contains(line)));
        }
        String words = spaced(doc);
        int promise = 0;
        for (String line : readme.split("\n")) {
            Matcher call = CALL.matcher(line);
            promise = call.matches() ? Integer.parseInt(call.group(1)) : promise;
            if (line.startsWith("    - ")) {
                edge(promise, "these are the document's words: " + line.trim(), () -> yes(words.contains(spaced(line.substring(6)))));
            }
        }
    }

    private static void face() {
        edge(1, "the constants are as README says", () -> {
            due(-1, OneJoy.NONE);
            due(-1000000, OneJoy.HIDDEN);
        });
        edge(1, "there is one constructor, public and without parameters", () -> {
            Constructor<?>[] all = OneJoy.class.getDeclaredConstructors();
            due(1, all.length);
            due(0, all[0].getParameterCount());
            yes(Modifier.isPublic(all[0].getModifiers()));
        });
    }

    private static List<String> javaLines(String readme) {
        List<String> lines = new ArrayList<>();
        Matcher m = Pattern.compile("(?s)```java\\n(.*?)```").matcher(readme);
        while (m.find()) {
            lines.addAll(List.of(m.group(1).split("\n")));
        }
        return lines;
    }

    /** README's way of feeding a whole text is the one that these tests use. */
    private static void helper(String readme) throws IOException {
        String tested = spaced(Files.readString(Path.of("src/test/helpers/Edges.java")));
        String told = spaced(readme);
        int from = told.indexOf("static void feed(OneJoy joy, String text) {");
        int to = told.indexOf("```", Math.max(0, from));
        edge(2, "README's feed is the tested one", () -> yes(from >= 0 && tested.contains(told.substring(from, to).trim())));
    }

    private static void examples(String readme) {
        OneJoy joy = new OneJoy();
        int number = 0;
        for (String line : javaLines(readme)) {
            Matcher fed = FED.matcher(line);
            Matcher example = EXAMPLE.matcher(line);
            if (fed.matches()) {
                feed(joy, fed.group(1));
            } else if (line.startsWith("joy.")) {
                number++;
                String name = example.matches() ? example.group(1) : "";
                edge(promises.getOrDefault(name, 0), "example " + number + ": " + line, () ->
                    due(example.group(3), answer(joy, name, example.group(2))));
            }
        }
        int told = number;
        edge(1, "README has examples", () -> yes(told > 10));
    }

    private static String answer(OneJoy joy, String name, String list) {
        String[] texts = list.isEmpty() ? new String[0] : list.split(", *");
        for (Method m : OneJoy.class.getMethods()) {
            if (m.getName().equals(name) && m.getParameterCount() == texts.length) {
                Object[] values = new Object[texts.length];
                for (int i = 0; i < texts.length; i++) {
                    values[i] = value(m.getParameterTypes()[i], texts[i]);
                }
                try {
                    return String.valueOf(m.invoke(joy, values));
                } catch (IllegalAccessException | InvocationTargetException e) {
                    return e.toString();
                }
            }
        }
        return "no such call";
    }

    private static Object value(Class<?> type, String text) {
        if (type == boolean.class) {
            return Boolean.valueOf(text);
        }
        long number = Long.decode(text);
        if (type == long.class) {
            return number;
        }
        return (int) number;
    }

    /** Each item that README's rows tell: its highest number, the one above that, and what stands without it. */
    private static void items(String readme) {
        Matcher m = ITEM.matcher(readme);
        int told = 0;
        while (m.find()) {
            told++;
            String clause = m.group(1);
            String letter = m.group(2);
            int most = Integer.parseInt(m.group(3));
            int without = Integer.parseInt(m.group(4));
            edge(5, clause + letter + " has the bounds and the default that README says", () -> {
                String text = many("d;", clause.equals("d") ? 11 : 12) + clause;
                due(NONE, fed(text + letter + most).fault(0));
                String above = text + letter + (most + 1);
                due(above.length() - 1, fed(above).fault(0));
                due(without, itemOf(village(text), clause, letter));
                due(most, itemOf(village(text + letter + most), clause, letter));
            });
        }
        int rows = told;
        edge(5, "README tells twelve items", 12, () -> rows);
    }

    /** What the last clause told: the twelfth house is its own. */
    private static long itemOf(OneJoy joy, String clause, String letter) {
        if (clause.equals("v")) {
            return joy.count(letter.equals("a") ? 6 : letter.equals("h") ? 5 : 8);
        }
        return clause.equals("w") ? joy.window(0, "abo".indexOf(letter)) : house(joy, 11, "wepktb".indexOf(letter));
    }

    private static void texts(String readme) {
        Matcher m = TEXT.matcher(readme);
        int told = 0;
        while (m.find()) {
            told++;
            String text = m.group(1).replace("\\|", "|");
            int sort = Integer.parseInt(m.group(2));
            int fault = Integer.parseInt(m.group(3));
            edge(4, "'" + text + "' has the fault that README says", fault, () -> fed(text).fault(sort));
        }
        int rows = told;
        edge(4, "README has texts with faults", () -> yes(rows > 10));
    }

    private static void tests(String readme) throws IOException {
        TreeSet<String> there = new TreeSet<>();
        for (String name : Path.of("src/test/java").toFile().list()) {
            there.add(name.replace(".java", ""));
        }
        TreeSet<String> told = new TreeSet<>();
        Matcher m = TEST.matcher(readme.substring(readme.indexOf("## How to run its tests")));
        while (m.find()) {
            told.add(m.group(1));
        }
        edge(1, "README names each of the tests, and none that is not there", () -> due(there.toString(), told.toString()));
    }
}
