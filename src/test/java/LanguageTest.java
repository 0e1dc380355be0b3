import java.io.IOException;
import java.lang.reflect.Constructor;
import java.lang.reflect.Field;
import java.lang.reflect.Method;
import java.lang.reflect.Modifier;
import java.nio.file.Files;
import java.nio.file.Path;
import java.util.Arrays;
import java.util.Set;
import java.util.TreeSet;
import java.util.regex.Matcher;
import java.util.regex.Pattern;

/** The face is the document's and no more, and the source keeps to what LANGUAGE.md leaves. */
public final class LanguageTest {
    private static final String FACE = "bell(int,int) call() change(int,int) drift(int) dry(int,int) fault() feed(int) follow() "
        + "forgive(int) gap(int,int) goBack(int) hear(int,int) judge() keep(int) last(int,int) listen() method(int) nextOut() "
        + "placeAt(int,int) ring(int) ropes(int) round() rowAt(int) seed(int) stand() suitor(int,int) swap(int,int) tear() "
        + "told(int) touch(int,int) tower() trueFor() undo() wet(boolean) write(int,int)";
    private static final Set<String> CONSTANTS = Set.of("NONE", "UNKNOWN", "OUTSIDE", "NOT", "FULL");
    private static final String[] RULED_OUT = {
        "throw", "throws", "try", "catch", "finally", "synchronized", "assert", "static\\s*\\{", "->", "::", "\\w+Exact", "null", "Object",
        "protected", "volatile", "record\\s+\\w+\\(.*\\)\\s*\\{.*->", "System\\.(?!arraycopy)", "Random", "Thread", "HashMap", "hashCode", "toString",
        "@SuppressWarnings", "\\[\\]\\[\\]\\[\\]", "while\\s*\\(true\\)", "for\\s*\\(;;\\)"};
    /** Of what rule 4 lists, what a class without texts and lists can need. */
    private static final Set<String> LIBRARY = Set.of("Integer.bitCount", "Integer.numberOfTrailingZeros", "Integer.compare", "Math.max",
        "Math.min", "Math.abs", "Math.floorDiv", "Math.floorMod", "Arrays.fill", "Arrays.copyOf", "Arrays.copyOfRange", "System.arraycopy");
    private static final Due due = new Due();

    public static void main(String[] args) throws IOException {
        face();
        insides();
        String source = Files.readString(Path.of("src/main/java/BellSuitors.java"));
        due.is("signs above 127", source.chars().filter(c -> c > 127).count(), 0);
        String code = withoutWords(source);
        for (String wrong : RULED_OUT) {
            due.is("'" + wrong + "' in the source", count(code, wordPattern(wrong)), 0);
        }
        due.is("imports", count(code, "import (?!java\\.util\\.(Arrays|ArrayList|List|Iterator);)"), 0);
        due.is("package lines", count(code, "(?m)^\\s*package\\b"), 0);
        due.is("texts", count(code, "\"|\\bString"), 0);
        libraryOf(code);
        lengths(code);
        depths();
        due.end();
    }

    private static void depths() {
        CallGraph graph = new CallGraph(BellSuitors.class);
        due.is("methods were found: " + graph.methods(), graph.methods() > 100 ? 1 : 0, 1);
        due.is("calls go so deep: " + graph.deepest(), graph.deepest() <= 8 ? 1 : 0, 1);
        // These two carry the LEAD as their depth, and go no deeper than eight.
        due.is("recursion: " + graph.recursive(), graph.recursive().equals(Set.of("goOn", "endLead")) ? 1 : 0, 1);
    }

    private static String wordPattern(String wrong) {
        return Character.isLetter(wrong.charAt(0)) ? "\\b" + wrong + (wrong.matches("\\w+") ? "\\b" : "") : wrong;
    }

    private static void face() {
        Class<?> c = BellSuitors.class;
        due.is("public and final", c.getModifiers() & (Modifier.PUBLIC | Modifier.FINAL), Modifier.PUBLIC | Modifier.FINAL);
        Set<String> found = new TreeSet<>();
        for (Method m : c.getDeclaredMethods()) {
            if (Modifier.isPrivate(m.getModifiers())) {
                continue;
            }
            String types = Arrays.toString(Arrays.stream(m.getParameterTypes()).map(Class::getName).toArray());
            found.add(m.getName() + types.replace("[", "(").replace("]", ")").replace(" ", ""));
            due.is(m + " is public and no more", m.getModifiers(), Modifier.PUBLIC);
            due.is(m + " answers an int", m.getReturnType() == int.class ? 1 : 0, 1);
        }
        Set<String> wanted = new TreeSet<>(Arrays.asList(FACE.split(" ")));
        due.is("the face is " + found, found.equals(wanted) ? 1 : 0, 1);
        for (Field f : c.getDeclaredFields()) {
            boolean constant = CONSTANTS.contains(f.getName());
            due.is(f + " is private, or a constant", Modifier.isPrivate(f.getModifiers()) ? 0 : 1, constant ? 1 : 0);
        }
        Constructor<?>[] made = c.getDeclaredConstructors();
        due.is("one constructor", made.length, 1);
        due.is("of no parameters", made[0].getParameterCount(), 0);
    }

    private static void insides() {
        Class<?>[] inside = BellSuitors.class.getDeclaredClasses();
        due.is("classes, at most twelve", inside.length + 1 <= 12 ? 1 : 0, 1);
        Set<String> names = new TreeSet<>();
        for (String call : FACE.split(" ")) {
            names.add(call.substring(0, call.indexOf('(')));
        }
        for (Class<?> c : inside) {
            due.is(c + " is static", Modifier.isStatic(c.getModifiers()) ? 1 : 0, 1);
            due.is(c + " is not public", Modifier.isPublic(c.getModifiers()) || Modifier.isProtected(c.getModifiers()) ? 1 : 0, 0);
            for (Method m : c.getDeclaredMethods()) {
                due.is(m + " bears no name of the face", names.contains(m.getName()) ? 1 : 0, 0);
                due.is(m + " takes at most seven", m.getParameterCount() <= 7 ? 1 : 0, 1);
            }
            statics(c);
        }
        statics(BellSuitors.class);
        for (Method m : BellSuitors.class.getDeclaredMethods()) {
            boolean hidden = Modifier.isPrivate(m.getModifiers());
            due.is(m + " private by a public name", hidden && names.contains(m.getName()) ? 1 : 0, 0);
        }
    }

    private static void statics(Class<?> c) {
        int own = 0;
        for (Field f : c.getDeclaredFields()) {
            if (Modifier.isStatic(f.getModifiers())) {
                due.is(f + " is final", Modifier.isFinal(f.getModifiers()) ? 1 : 0, 1);
                due.is(f + " is a number", f.getType() == int.class || f.getType() == long.class ? 1 : 0, 1);
            } else {
                due.is(f + " is of a type that is left", isLeft(f.getType()) ? 1 : 0, 1);
                own++;
            }
        }
        // A constructor that takes nothing is handed nothing of the object that makes it.
        for (Constructor<?> made : c.getDeclaredConstructors()) {
            due.is(made + " takes nothing", made.getParameterCount(), 0);
        }
        due.is(c + " has some twenty fields at most: " + own, own <= 20 ? 1 : 0, 1);
    }

    private static boolean isLeft(Class<?> type) {
        Class<?> of = type.isArray() ? type.getComponentType() : type;
        return of == int.class || of == long.class || of == boolean.class || of.getEnclosingClass() == BellSuitors.class;
    }

    private static void libraryOf(String code) {
        Matcher m = Pattern.compile("\\b(Integer|Long|Math|Arrays|System|Character|Objects|List)\\.(\\w+)").matcher(code.replaceAll("(?m)^import.*$", ""));
        while (m.find()) {
            due.is(m.group() + " is of the library that is left", LIBRARY.contains(m.group()) ? 1 : 0, 1);
        }
    }

    /** Comments and texts do not count as code. */
    private static String withoutWords(String source) {
        return source.replaceAll("(?s)/\\*.*?\\*/", "").replaceAll("//[^\\n]*", "").replaceAll("\"[^\"]*\"", "\"\"");
    }

    private static int count(String code, String pattern) {
        Matcher m = Pattern.compile(pattern).matcher(code);
        int n = 0;
        while (m.find()) {
            n++;
        }
        return n;
    }

    private static void lengths(String code) {
        Matcher m = Pattern.compile("(?m)^( +)[\\w\\[\\] ]+\\([^;{}]*\\) \\{\\n").matcher(code);
        int methods = 0;
        while (m.find()) {
            int end = code.indexOf("\n" + m.group(1) + "}", m.start());
            long lines = code.substring(m.start(), end).lines().count();
            due.is("a method of " + lines + " lines: " + m.group().trim(), lines <= 60 ? 1 : 0, 1);
            methods++;
        }
        due.is("methods were found", methods > 35 ? 1 : 0, 1);
    }
}
