import java.io.IOException;
import java.lang.reflect.Constructor;
import java.lang.reflect.Field;
import java.lang.reflect.Method;
import java.lang.reflect.Modifier;
import java.nio.file.Files;
import java.nio.file.Path;
import java.util.Arrays;
import java.util.TreeSet;
import java.util.regex.Matcher;
import java.util.regex.Pattern;

/** The public face of the document and what LANGUAGE.md rules out, as far as a reader of the class can see it. */
public final class FaceTest {
    private static final String FACE = "int sign(int) boolean end(int) int ground() int wishes(int) int rule() "
            + "int field(int,int) int consul(int,int) int set(int,int,int) int sheet(int,int,int,int) int whose() "
            + "int march(int) int halt() int fight() int foe(int) int send(int,int) int lend(int) int sick(int,int) "
            + "int war() int undo() int comes(int,int) int issue(int,int) int reach(int) int evening() int lasts() "
            + "int feeds(int) int boldness(int) int arrives(int) int avoids(int) int safe(int) int forces(int) "
            + "int offers(int) int bargain() int share(int) int command(int) int halves() int seen(int,int) "
            + "int forget() int was(int,int) int sure(int,int) int ask(int,int) int rain(int,int) int stops(int,int) "
            + "int rests() int years(int,int) boolean keep(int) boolean again(int) int count(int) long row(int)";
    private static final String[] RULED_OUT = {"->", "::", "\\btry\\b", "\\bcatch\\b", "\\bfinally\\b", "\\bassert\\b",
        "\\bsynchronized\\b", "\\bimport (?!java\\.util\\.NoSuchElementException;)", "\\bdouble\\b", "\\bfloat\\b",
        "\\bSystem\\b", "\\bObject\\b", "Exact\\b", "\\bstatic \\{", "\\bvar\\b", "[^\\x00-\\x7f]"};

    public static void main(String[] args) throws IOException {
        members();
        namesInside();
        source();
        Check.finish();
    }

    private static void members() {
        Class<?> c = CommandByTurns.class;
        Check.due("public and final", c.getModifiers(), Modifier.PUBLIC | Modifier.FINAL);
        TreeSet<String> due = new TreeSet<>(Arrays.asList(FACE.split(" (?=int|boolean|long)")));
        TreeSet<String> got = new TreeSet<>();
        for (Method m : c.getDeclaredMethods()) {
            if (!Modifier.isPrivate(m.getModifiers()) && !m.isSynthetic()) {
                String types = Arrays.toString(m.getParameterTypes()).replaceAll("[\\[\\] ]", "");
                got.add(m.getReturnType() + " " + m.getName() + "(" + types + ")");
                Check.due(m.getName() + " is public", Modifier.isPublic(m.getModifiers()), true);
                Check.due(m.getName() + " is not static", Modifier.isStatic(m.getModifiers()), false);
            }
        }
        Check.due("the methods of the face " + got + ", due " + due, got.equals(due), true);
        Constructor<?>[] constructors = c.getDeclaredConstructors();
        Check.due("one constructor", constructors.length, 1);
        Check.due("public", constructors[0].getModifiers(), Modifier.PUBLIC);
        Check.due("without parameters", constructors[0].getParameterCount(), 0);
        for (Field f : c.getDeclaredFields()) {
            boolean isOfTheFace = f.getName().equals("NONE");
            Check.due(f.getName() + " is private", Modifier.isPrivate(f.getModifiers()), !isOfTheFace);
            Check.due(f.getName() + " is final, if it is static",
                    !Modifier.isStatic(f.getModifiers()) || Modifier.isFinal(f.getModifiers()), true);
        }
        Check.due("at most some twenty fields", fieldsOf(c) <= 20, true);
        Check.due("at most some twelve classes", c.getDeclaredClasses().length <= 11, true);
    }

    private static int fieldsOf(Class<?> c) {
        int fields = 0;
        for (Field f : c.getDeclaredFields()) {
            fields += Modifier.isStatic(f.getModifiers()) ? 0 : 1;
        }
        return fields;
    }

    private static void namesInside() {
        TreeSet<String> open = new TreeSet<>();
        for (Method m : CommandByTurns.class.getDeclaredMethods()) {
            if (Modifier.isPublic(m.getModifiers())) {
                open.add(m.getName());
            }
        }
        for (Class<?> inner : CommandByTurns.class.getDeclaredClasses()) {
            Check.due(inner.getName() + " is static", Modifier.isStatic(inner.getModifiers()), true);
            Check.due(inner.getName() + " has at most some twenty fields", fieldsOf(inner) <= 20, true);
            for (Method m : inner.getDeclaredMethods()) {
                Check.due(inner.getName() + "." + m.getName() + " bears a public name", open.contains(m.getName()), false);
                Check.due(m.getName() + " has at most seven parameters", m.getParameterCount() <= 7, true);
            }
        }
        for (Method m : CommandByTurns.class.getDeclaredMethods()) {
            Check.due(m.getName() + " has at most seven parameters", m.getParameterCount() <= 7, true);
            if (Modifier.isPrivate(m.getModifiers())) {
                Check.due(m.getName() + " bears a public name", open.contains(m.getName()), false);
            }
        }
    }

    private static void source() throws IOException {
        String text = Files.readString(Path.of("src/main/java/CommandByTurns.java"));
        for (String pattern : RULED_OUT) {
            Check.due("the source holds " + pattern, Pattern.compile(pattern).matcher(text).find(), false);
        }
        methodLengths(text.split("\n"));
    }

    /** A method's first line ends in { and has a ( ahead of it, its last one is a } that stands as far to the right. */
    private static void methodLengths(String[] lines) {
        Pattern first = Pattern.compile("( {4}| {8})(?!if|for|while|switch|\\}| )\\w.*\\(.*\\{");
        int methods = 0;
        for (int i = 0; i < lines.length; i++) {
            Matcher m = first.matcher(lines[i]);
            if (m.matches()) {
                int last = Arrays.asList(lines).subList(i, lines.length).indexOf(m.group(1) + "}");
                Check.due("some sixty lines at most: " + lines[i], last > 0 && last <= 60, true);
                methods++;
            }
        }
        Check.due("methods are found in the source", methods > 100, true);
    }
}
