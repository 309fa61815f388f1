import java.lang.reflect.Method;
import java.lang.reflect.Modifier;
import java.nio.file.Files;
import java.nio.file.Path;
import java.util.Arrays;
import java.util.Set;
import java.util.TreeSet;
import java.util.regex.Matcher;
import java.util.regex.Pattern;

/** README.md tells the truth: its calls are made, one by one, and answer what it says; it names all calls. */
public final class ReadmeTest {
    private static final Pattern CALL = Pattern.compile("x\\.(\\w+)\\((.*)\\); *// (-?\\d+|true|false)(:.*)?");

    public static void main(String[] args) throws Exception {
        String text = Files.readString(Path.of("README.md"));
        examples(text);
        namesAllCalls(text);
        Check.finish("ReadmeTest");
    }

    private static void examples(String text) throws Exception {
        FairSlots x = new FairSlots();
        boolean java = false;
        int calls = 0;
        for (String line : text.split("\n")) {
            if (line.startsWith("```")) {
                java = line.equals("```java");
            } else if (java && line.equals("FairSlots x = new FairSlots();")) {
                x = new FairSlots();
            } else if (java) {
                Matcher call = CALL.matcher(line);
                boolean read = call.matches();
                Check.due("README.md has a call and its answer: " + line, read, true);
                if (read) {
                    String got = String.valueOf(answer(x, call.group(1), call.group(2)));
                    Check.same("README.md: " + line, got, call.group(3));
                    calls++;
                }
            }
        }
        Check.due("README.md has examples", calls > 20, true);
    }

    private static Object answer(FairSlots x, String name, String told) throws Exception {
        String[] terms = told.isEmpty() ? new String[0] : told.split(",");
        Object[] values = new Object[terms.length];
        Class<?>[] types = new Class<?>[terms.length];
        for (int k = 0; k < terms.length; k++) {
            values[k] = value(terms[k]);
            types[k] = int.class;
        }
        return FairSlots.class.getMethod(name, types).invoke(x, values);
    }

    /** Numbers and signs, each moved up by << or not, put together by |. */
    private static int value(String told) {
        int sum = 0;
        for (String term : told.split("\\|")) {
            String[] parts = term.split("<<");
            String first = parts[0].trim();
            int number = first.startsWith("'") ? first.charAt(1) : Integer.parseInt(first);
            sum |= parts.length > 1 ? number << Integer.parseInt(parts[1].trim()) : number;
        }
        return sum;
    }

    private static void namesAllCalls(String text) {
        Set<String> missing = new TreeSet<>();
        for (Method m : FairSlots.class.getDeclaredMethods()) {
            boolean face = Modifier.isPublic(m.getModifiers());
            boolean named = Arrays.stream(text.split("\n"))
                .anyMatch(line -> line.startsWith("| `") && line.contains("`" + m.getName() + "`"));
            if (face && !named) {
                missing.add(m.getName());
            }
        }
        Check.same("calls that README.md's table does not name", missing.toString(), "[]");
        Check.due("README.md says how to run the tests", text.contains(".ci/run"), true);
    }
}
