import java.io.IOException;
import java.lang.reflect.Constructor;
import java.lang.reflect.Field;
import java.lang.reflect.Method;
import java.lang.reflect.Modifier;
import java.nio.file.Files;
import java.nio.file.Path;
import java.util.Arrays;
import java.util.Set;
import java.util.TreeSet;
import java.util.stream.Collectors;

/** The public face, and those rules of LANGUAGE.md that can be seen from outside. */
public final class FaceTest {
    private static final String[] METHODS = {
        "int sign(int)", "boolean end(int)", "int joins()", "int ties()", "int task(int,int)",
        "int part(int,int,int)", "int sheet(int,int,int,int)", "int slot()", "int slots(int)",
        "int processors(int)", "int leaves(int)", "int hurries(int)", "int shift()", "int undo()",
        "int lag(int)", "int use()", "int order()", "int behind()", "int ahead(int)", "int runs(int)",
        "int when(int,int)", "int misses()", "int round()", "int share(int,int)", "int pairs(int)",
        "int lags(int)", "int flow(int)", "int waits(int)", "int room()", "int fewest()",
        "int heard(int,int)", "int forget()", "int fits()", "int asks()", "int saw(int,int)",
        "int denies()", "int weights()", "int looks()", "int odds(int,int,int)", "int divisors(int)",
        "int rests(int)", "int law()", "int years(int,int)", "boolean keep(int)", "boolean again(int)",
        "int count(int)", "long row(int)"};

    public static void main(String[] args) throws IOException {
        methods();
        fieldsAndConstructors();
        classesInside();
        words();
        Check.finish("FaceTest");
    }

    private static String told(Method m) {
        String types = Arrays.stream(m.getParameterTypes()).map(Class::getName).collect(Collectors.joining(","));
        return m.getReturnType().getName() + " " + m.getName() + "(" + types + ")";
    }

    private static void methods() {
        Set<String> due = new TreeSet<>(Arrays.asList(METHODS));
        Set<String> got = new TreeSet<>();
        Set<String> names = new TreeSet<>();
        for (Method m : FairSlots.class.getDeclaredMethods()) {
            if (!Modifier.isPrivate(m.getModifiers())) {
                got.add(told(m));
                names.add(m.getName());
                Check.due(m.getName() + " is public", Modifier.isPublic(m.getModifiers()), true);
                Check.due(m.getName() + " is not static", Modifier.isStatic(m.getModifiers()), false);
            }
        }
        System.out.print(got.equals(due) ? "" : "methods are " + got + "\n");
        Check.due("the methods are those of the document", got.equals(due), true);
        noOtherBearsTheName(FairSlots.class, names);
        for (Class<?> c : FairSlots.class.getDeclaredClasses()) {
            noOtherBearsTheName(c, names);
        }
    }

    private static void noOtherBearsTheName(Class<?> c, Set<String> names) {
        for (Method m : c.getDeclaredMethods()) {
            boolean face = c == FairSlots.class && Modifier.isPublic(m.getModifiers());
            Check.due(c.getName() + "." + m.getName() + " has a name of its own",
                face || !names.contains(m.getName()), true);
            Check.due(m.getName() + " has at most 7 parameters", m.getParameterCount() <= 7, true);
        }
    }

    private static void fieldsAndConstructors() {
        Check.due("final", Modifier.isFinal(FairSlots.class.getModifiers()), true);
        for (Field f : FairSlots.class.getDeclaredFields()) {
            boolean none = f.getName().equals("NONE");
            Check.due(f.getName() + " is private", Modifier.isPrivate(f.getModifiers()), !none);
        }
        Constructor<?>[] made = FairSlots.class.getDeclaredConstructors();
        Check.due("constructors", made.length, 1);
        Check.due("of no parameters", made[0].getParameterCount(), 0);
    }

    private static void classesInside() {
        Class<?>[] inside = FairSlots.class.getDeclaredClasses();
        Check.due("classes are few", inside.length < 12, true);
        for (Class<?> c : inside) {
            int m = c.getModifiers();
            Check.due(c.getName() + " is static", Modifier.isStatic(m), true);
            Check.due(c.getName() + " is not public", Modifier.isPublic(m) || Modifier.isProtected(m), false);
            long fields = Arrays.stream(c.getDeclaredFields())
                .filter(f -> !Modifier.isStatic(f.getModifiers())).count();
            Check.due(c.getName() + " has few fields", fields <= 20, true);
            for (Field f : c.getDeclaredFields()) {
                if (Modifier.isStatic(f.getModifiers())) {
                    Check.due(f.getName() + " is final", Modifier.isFinal(f.getModifiers()), true);
                }
            }
        }
    }

    private static void words() throws IOException {
        String text = Files.readString(Path.of("src/main/java/FairSlots.java"));
        for (String word : new String[] {"->", "::", "synchronized", "assert ", "finally", "catch",
            "Exact", "package ", "System.out", "Random", "Thread", " float ", " double "}) {
            Check.due("no " + word, text.contains(word), false);
        }
        int start = -1;
        String[] lines = text.split("\n");
        for (int k = 0; k < lines.length; k++) {
            Check.due("line " + (k + 1) + " is not too long", lines[k].length() <= 110, true);
            if (lines[k].matches(" {4,8}(\\w+ )*[\\w\\[\\]]+ ?\\w*\\(.*\\{")) {
                start = k;
            }
            if (start >= 0 && lines[k].matches(" {4,8}\\}")) {
                Check.due("the method at line " + (start + 1) + " is short", k - start <= 60, true);
            }
        }
    }
}
