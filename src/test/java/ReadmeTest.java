import java.io.IOException;
import java.lang.reflect.InvocationTargetException;
import java.lang.reflect.Method;
import java.nio.file.Files;
import java.nio.file.Path;
import java.util.ArrayList;
import java.util.List;
import java.util.TreeSet;
import java.util.regex.Matcher;
import java.util.regex.Pattern;
import java.util.stream.Stream;

/** What README.md says of the class: its example's answers, its table of calls beside the document, its list of tests. */
public final class ReadmeTest {
    private static final Pattern CALL = Pattern.compile("x\\.([a-z]+)\\(([^)]*)\\);\\s*// (-?[0-9]+)\\b.*");
    private static final Pattern ROW = Pattern.compile("\\| `([a-z]+)\\(([a-z, ]*)\\)` \\|[^|]*\\|([^|]*)\\|");
    private static final Pattern PROMISE = Pattern.compile("`int ([a-z]+)\\(([^)]*)\\)`: (.*)");
    private static final Pattern REFUSAL = Pattern.compile("\\b(UNKNOWN|OUTSIDE|NOT|FULL|DAMAGED)\\b");
    private static final String[] CONSTANTS = {"UNKNOWN", "OUTSIDE", "NOT", "FULL", "DAMAGED"};

    private ReadmeTest() {
    }

    public static void main(String[] args) throws IOException, ReflectiveOperationException {
        String readme = Files.readString(Path.of("README.md"));
        List<String> called = runExample(readme);
        lookAtTable(readme, called);
        lookAtConstants(readme);
        lookAtTests(readme);
        Check.finish();
    }

    private static List<String> runExample(String readme) throws ReflectiveOperationException {
        String start = "```java\n";
        int from = readme.indexOf(start) + start.length();
        String[] rows = readme.substring(from, readme.indexOf("```", from)).split("\n");
        Check.isTrue("the example makes an object", rows[0].startsWith("NameNets x = new NameNets();"));
        NameNets x = new NameNets();
        List<String> called = new ArrayList<>();
        for (int i = 1; i < rows.length; i++) {
            if (rows[i].isEmpty()) {
                continue;
            }
            Matcher call = CALL.matcher(rows[i]);
            Check.isTrue("a call with its answer: " + rows[i], call.matches());
            called.add(call.group(1));
            Check.due(rows[i], answer(x, call.group(1), call.group(2)), Integer.parseInt(call.group(3)));
            namesItsConstant(rows[i], Integer.parseInt(call.group(3)));
        }
        return called;
    }

    private static int answer(NameNets x, String name, String told) throws ReflectiveOperationException {
        String[] parts = told.isEmpty() ? new String[0] : told.split(", ");
        for (Method method : NameNets.class.getMethods()) {
            if (method.getName().equals(name) && method.getDeclaringClass() == NameNets.class) {
                Object[] values = new Object[parts.length];
                for (int i = 0; i < parts.length; i++) {
                    long value = number(parts[i]);
                    values[i] = method.getParameterTypes()[i] == long.class ? (Object) value : (Object) (int) value;
                }
                return (Integer) method.invoke(x, values);
            }
        }
        throw new InvocationTargetException(null, "no call " + name);
    }

    private static long number(String literal) {
        if (literal.startsWith("'")) {
            return literal.charAt(1);
        }
        if (literal.startsWith("0b")) {
            return Long.parseLong(literal.substring(2), 2);
        }
        return literal.startsWith("0x") ? Long.decode(literal.replace("L", "")) : Long.parseLong(literal);
    }

    /** Behind an answer that a constant stands for, its name must be told. */
    private static void namesItsConstant(String row, int answer) throws ReflectiveOperationException {
        for (String constant : CONSTANTS) {
            if (NameNets.class.getField(constant).getInt(null) == answer) {
                Check.isTrue("names " + constant + ": " + row, row.contains("// " + answer + ", " + constant));
            }
        }
    }

    private static void lookAtTable(String readme, List<String> called) throws IOException {
        List<String> table = new ArrayList<>();
        Matcher row = ROW.matcher(readme);
        while (row.find()) {
            table.add(row.group(1) + "(" + row.group(2) + ")" + refusals(row.group(3)));
            Check.isTrue("the example has " + row.group(1), called.contains(row.group(1)));
        }
        List<String> promised = new ArrayList<>();
        Matcher promise = PROMISE.matcher(Files.readString(Path.of("../shared/DOC.md")));
        while (promise.find()) {
            String names = promise.group(2).replaceAll("(int|long) ", "");
            promised.add(promise.group(1) + "(" + names + ")" + refusals(promise.group(3)));
        }
        Check.due("calls of the document", promised.size(), 29);
        Check.due("calls in the table", table.size(), promised.size());
        for (int i = 0; i < Math.min(table.size(), promised.size()); i++) {
            Check.isTrue("the table has " + table.get(i) + ", the document " + promised.get(i), table.get(i).equals(promised.get(i)));
        }
    }

    private static List<String> refusals(String words) {
        List<String> found = new ArrayList<>();
        Matcher refusal = REFUSAL.matcher(words);
        while (refusal.find()) {
            found.add(refusal.group());
        }
        return found;
    }

    private static void lookAtConstants(String readme) throws ReflectiveOperationException {
        for (String constant : CONSTANTS) {
            String words = "`" + constant + "` (" + NameNets.class.getField(constant).getInt(null);
            Check.isTrue("the README has " + words, readme.contains(words));
        }
        Check.isTrue("the README has NONE", readme.contains("`NONE` is " + NameNets.NONE + " "));
    }

    private static void lookAtTests(String readme) throws IOException {
        TreeSet<String> told = new TreeSet<>();
        Matcher test = Pattern.compile("`([A-Za-z]+Test)`").matcher(readme);
        while (test.find()) {
            told.add(test.group(1));
        }
        TreeSet<String> there = new TreeSet<>();
        try (Stream<Path> files = Files.list(Path.of("src/test/java"))) {
            files.map(file -> file.getFileName().toString()).filter(name -> name.endsWith("Test.java"))
                .forEach(name -> there.add(name.substring(0, name.length() - ".java".length())));
        }
        Check.isTrue("the README tells of " + told + ", there are " + there, told.equals(there));
    }
}
