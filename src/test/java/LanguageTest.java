import java.io.IOException;
import java.lang.reflect.Constructor;
import java.lang.reflect.Field;
import java.lang.reflect.Method;
import java.lang.reflect.Modifier;
import java.nio.file.Files;
import java.nio.file.Path;
import java.util.ArrayList;
import java.util.Arrays;
import java.util.Collections;
import java.util.HashSet;
import java.util.List;
import java.util.Set;
import java.util.TreeSet;

/**
 * The face and what of LANGUAGE.md can be told from the class and its text. The text's path is the
 * property "source".
 */
public final class LanguageTest {
    /** Every call of the face: what it answers, its name, and of how many ints. */
    private static final String[] FACE = {
        "int feed 5", "int town 1", "int fault 0", "int count 1", "int house 2", "int person 2",
        "int eases 2", "int days 1", "int putIn 2", "int out 1", "int stuff 2", "boolean change 2",
        "int letIn 0", "int undo 0", "int then 3", "int worn 2", "int burst 1", "int wriggles 1",
        "int barefoot 1", "int last 1", "int goes 1", "int match 1", "int matched 1", "int trade 1",
        "int toStuff 2", "int toWait 2", "int round 1", "int see 3", "void forget 0", "int large 1",
        "int next 1", "int byDamp 3", "int game 4", "int years 3", "int heirs 1", "int toGrow 2",
        "int paid 1", "int wornest 1", "int dampest 1", "int kept 1", "int sorest 1", "int eased 3",
        "int free 1", "int larger 1", "int wide 1", "int endures 2", "int ringed 1", "void image 0",
        "boolean restore 0"};
    private static final String[] UNTOLD = {
        "->", "::", "try", "catch", "finally", "synchronized", "assert", "Exact", "HashMap", "System.out",
        "getMessage", "hashCode", "toString", "random", "currentTime", "nanoTime", "Thread", "static {",
        "String.format", "instanceof", "double", "float"};

    private static final Due due = new Due();

    public static void main(String[] args) throws IOException {
        face();
        faceAsTold(Path.of(System.getProperty("doc")));
        members();
        inside();
        text(Files.readAllLines(Path.of(System.getProperty("source"))));
        due.end("LanguageTest");
    }

    private static void face() {
        int kind = HornHouses.class.getModifiers();
        due.is("public and final", Modifier.isPublic(kind) && Modifier.isFinal(kind), true);
        Set<String> want = new TreeSet<>(Arrays.asList(FACE));
        Set<String> got = new TreeSet<>();
        for (Method m : HornHouses.class.getDeclaredMethods()) {
            if (Modifier.isPublic(m.getModifiers())) {
                got.add(m.getReturnType() + " " + m.getName() + " " + m.getParameterCount());
                for (Class<?> type : m.getParameterTypes()) {
                    due.is(m.getName() + " of ints", type == int.class, true);
                }
                due.is(m.getName() + " of an object", Modifier.isStatic(m.getModifiers()), false);
            }
        }
        due.is("the face " + got, got.equals(want), true);
        Constructor<?>[] made = HornHouses.class.getDeclaredConstructors();
        due.is("one constructor", made.length, 1);
        due.is("public", Modifier.isPublic(made[0].getModifiers()), true);
        due.is("of nothing", made[0].getParameterCount(), 0);
    }

    /** The document's own lines of the face, with what each call throws, in this order. */
    private static void faceAsTold(Path doc) throws IOException {
        if (!Files.isReadable(doc)) {
            System.out.println("LanguageTest: no document at " + doc + ", its face is not held");
            return;
        }
        Set<String> want = new TreeSet<>();
        for (String line : Files.readAllLines(doc)) {
            if (line.matches("    public (int|void|boolean) .*\\(.*;")) {
                want.add(line.trim().replaceAll("public |;|int (?=[a-z]+[,)])", "").replaceAll("(?<=[(,] ?)[a-z]+", "int"));
            }
        }
        Set<String> got = new TreeSet<>();
        for (Method m : HornHouses.class.getDeclaredMethods()) {
            if (Modifier.isPublic(m.getModifiers())) {
                List<String> thrown = new ArrayList<>();
                for (Class<?> e : m.getExceptionTypes()) {
                    thrown.add(e.getSimpleName());
                }
                String types = String.join(", ", Collections.nCopies(m.getParameterCount(), "int"));
                got.add(m.getReturnType() + " " + m.getName() + "(" + types + ")"
                    + (thrown.isEmpty() ? "" : " throws " + String.join(", ", thrown)));
            }
        }
        due.is("calls of the document's face", want.size(), FACE.length);
        due.is("the document's face " + want + " against " + got, got.equals(want), true);
    }

    private static void members() {
        Set<String> open = new HashSet<>();
        for (String call : FACE) {
            open.add(call.split(" ")[1]);
        }
        for (Method m : HornHouses.class.getDeclaredMethods()) {
            boolean isPublic = Modifier.isPublic(m.getModifiers());
            due.is(m.getName() + " is public or private", isPublic || Modifier.isPrivate(m.getModifiers()), true);
            due.is(m.getName() + " bears a public name", !isPublic && open.contains(m.getName()), false);
        }
        for (Class<?> c : HornHouses.class.getDeclaredClasses()) {
            for (Method m : c.getDeclaredMethods()) {
                boolean isPrivate = Modifier.isPrivate(m.getModifiers());
                due.is(m + " bears a public name", isPrivate && open.contains(m.getName()), false);
            }
        }
        for (Field f : HornHouses.class.getDeclaredFields()) {
            boolean isPublic = Modifier.isPublic(f.getModifiers());
            due.is(f.getName() + " is NONE or private",
                isPublic ? f.getName().equals("NONE") : Modifier.isPrivate(f.getModifiers()), true);
        }
    }

    private static void inside() {
        List<Class<?>> all = new ArrayList<>(List.of(HornHouses.class.getDeclaredClasses()));
        due.is("at most twelve classes", all.size() < 12, true);
        for (Class<?> c : all) {
            due.is(c + " is static", Modifier.isStatic(c.getModifiers()), true);
            due.is(c + " isn't open", Modifier.isPublic(c.getModifiers()) || Modifier.isProtected(c.getModifiers()), false);
        }
        all.add(HornHouses.class);
        for (Class<?> c : all) {
            int held = 0;
            for (Field f : c.getDeclaredFields()) {
                boolean isStatic = Modifier.isStatic(f.getModifiers());
                due.is(f + " is final if static", !isStatic || Modifier.isFinal(f.getModifiers()), true);
                held += isStatic ? 0 : 1;
            }
            due.is(c + " has some twenty fields at most", held <= 20, true);
            for (Method m : c.getDeclaredMethods()) {
                due.is(m + " takes at most seven", m.getParameterCount() <= 7, true);
            }
        }
    }

    private static void text(List<String> lines) {
        int begun = 0;
        for (int i = 0; i < lines.size(); i++) {
            String line = lines.get(i);
            String code = line.replaceAll("\"[^\"]*\"", "\"\"").replaceAll("//.*|^ *(/\\*)?\\*.*", "");
            for (String word : UNTOLD) {
                due.is("line " + (i + 1) + " has " + word, code.matches(".*(?<![A-Za-z])"
                    + java.util.regex.Pattern.quote(word) + "(?![A-Za-z]).*"), false);
            }
            due.is("line " + (i + 1) + " imports", line.startsWith("import")
                && !line.equals("import java.util.Arrays;")
                && !line.equals("import java.util.NoSuchElementException;"), false);
            if (code.matches(" {4,8}[a-z].*\\) *(throws .*)?\\{")) {
                begun = i;
            }
            if (code.matches(" {4,8}}")) {
                due.is("method of line " + (begun + 1) + " is short", i - begun <= 60 || code.startsWith("    }"), true);
            }
            for (char c : line.toCharArray()) {
                due.is("line " + (i + 1) + " of plain signs", c >= 32 && c < 127, true);
            }
        }
    }
}
