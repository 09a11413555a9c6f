import java.lang.reflect.Field;
import java.lang.reflect.Method;
import java.lang.reflect.Modifier;
import java.nio.file.Files;
import java.nio.file.Path;
import java.util.ArrayList;
import java.util.Arrays;
import java.util.List;
import java.util.Set;
import java.util.TreeSet;
import java.util.regex.Matcher;
import java.util.regex.Pattern;

/** The public face of the class, and those rules of LANGUAGE.md that can be looked up without reading the program. */
public final class FaceTest {
    private static final String[] FACE = {
        "row/3", "set/3", "copy/5", "drop/1", "feed/1", "parish/0", "fault/0", "undo/0", "walk/3", "move/2",
        "bribe/2", "years/1", "witness/2", "memory/3", "stone/1", "sworn/2", "belief/3", "likeliest/1", "till/2",
        "take/5", "pain/3", "order/2", "stood/3", "shift/2", "map/2", "agree/1", "drawn/3", "image/1", "restore/1",
        "kind/1", "as/2", "ask/2", "trace/1", "count/1", "status/0"};
    private static final String[] FORBIDDEN = {
        "throw", "throws", "try", "catch", "synchronized", "assert", "import", "package", "new Object", "protected",
        "hashCode", "toString", "Exact"};

    private static final Set<String> LIBRARY = Set.of("Math.max", "Math.min", "Math.abs", "Integer.bitCount",
        "System.arraycopy");
    private static final Set<String> OWN = Set.of("Acts");

    private static final Due due = new Due("FaceTest");

    public static void main(String[] args) throws Exception {
        face();
        constants();
        insides();
        source();
        due.end();
    }

    private static void face() {
        TreeSet<String> names = new TreeSet<>();
        for (Method m : BeatBounds.class.getDeclaredMethods()) {
            if (!Modifier.isPrivate(m.getModifiers())) {
                due.holds(m.getName() + " is public and of an object",
                    Modifier.isPublic(m.getModifiers()) && !Modifier.isStatic(m.getModifiers()));
                due.holds(m.getName() + " takes and gives ints", m.getReturnType() == int.class
                    && Arrays.stream(m.getParameterTypes()).allMatch(t -> t == int.class));
                names.add(m.getName() + "/" + m.getParameterCount());
            }
        }
        due.holds("the methods are those of the face: " + names, names.equals(new TreeSet<>(Arrays.asList(FACE))));
        due.holds("the class is public and final", Modifier.isPublic(BeatBounds.class.getModifiers())
            && Modifier.isFinal(BeatBounds.class.getModifiers()));
        due.is("constructors", BeatBounds.class.getDeclaredConstructors().length, 1);
        due.holds("the constructor is public and takes nothing",
            Modifier.isPublic(BeatBounds.class.getDeclaredConstructors()[0].getModifiers())
            && BeatBounds.class.getDeclaredConstructors()[0].getParameterCount() == 0);
    }

    private static void constants() {
        TreeSet<String> open = new TreeSet<>();
        for (Field f : BeatBounds.class.getDeclaredFields()) {
            if (!Modifier.isPrivate(f.getModifiers())) {
                open.add(Modifier.toString(f.getModifiers()) + " " + f.getType() + " " + f.getName());
            }
        }
        String form = "public static final int ";
        due.holds("the open fields are the constants: " + open, open.equals(new TreeSet<>(Arrays.asList(
            form + "NONE", form + "BAD", form + "STATE", form + "FULL"))));
        due.is("NONE", BeatBounds.NONE, -1000000);
        due.is("BAD", BeatBounds.BAD, -1000001);
        due.is("STATE", BeatBounds.STATE, -1000002);
        due.is("FULL", BeatBounds.FULL, -1000003);
    }

    private static void insides() {
        List<Class<?>> all = new ArrayList<>(Arrays.asList(BeatBounds.class.getDeclaredClasses()));
        all.add(BeatBounds.class);
        due.holds("at most twelve classes", all.size() <= 12);
        TreeSet<String> face = new TreeSet<>();
        for (String f : FACE) {
            face.add(f.substring(0, f.indexOf('/')));
        }
        for (Class<?> c : all) {
            due.holds(c + " is static and not open", c == BeatBounds.class
                || Modifier.isStatic(c.getModifiers()) && !Modifier.isPublic(c.getModifiers()));
            int fields = 0;
            for (Field f : c.getDeclaredFields()) {
                due.holds(c + "." + f.getName() + ": static state is final",
                    !Modifier.isStatic(f.getModifiers()) || Modifier.isFinal(f.getModifiers()));
                fields += Modifier.isStatic(f.getModifiers()) ? 0 : 1;
            }
            due.holds(c + " has at most twenty fields", fields <= 20);
            for (Method m : c.getDeclaredMethods()) {
                due.holds(c + "." + m.getName() + " takes at most seven", m.getParameterCount() <= 7);
                due.holds(c + "." + m.getName() + " does not bear a public name",
                    Modifier.isPublic(m.getModifiers()) || !face.contains(m.getName()));
            }
        }
    }

    private static void source() throws Exception {
        String text = Files.readString(Path.of("src/main/java/BeatBounds.java"));
        String code = text.replaceAll("(?s)/\\*.*?\\*/", "").replaceAll("//[^\n]*", "");
        for (String word : FORBIDDEN) {
            due.holds("no " + word, !Pattern.compile("\\b" + word + "\\b").matcher(code).find());
        }
        due.holds("no lambda, no method reference", !code.contains("->") && !code.contains("::"));
        due.holds("signs are 1 to 127", text.chars().allMatch(c -> c >= 1 && c <= 127));
        library(code);
        lengths(text);
    }

    private static void library(String code) {
        Matcher used = Pattern.compile("\\b([A-Z]\\w*[a-z]\\w*)\\.(\\w+)").matcher(code);
        while (used.find()) {
            boolean own = OWN.contains(used.group(1));
            due.holds("looked up in LANGUAGE.md: " + used.group(), own || LIBRARY.contains(used.group()));
        }
        due.holds("no String, no list, no double", !Pattern.compile(
            "\\b(String|StringBuilder|List|ArrayList|Integer\\s+\\w|double|float)\\b").matcher(code).find());
        due.holds("no object is made but in constructors and fields", Arrays.stream(code.split("\n")).allMatch(
            line -> !line.contains("new ") || line.contains("final ") || line.matches(" +(rows|images)\\[i\\] = .*")));
    }

    /** A method ends with the first brace that stands as far in as its head does. */
    private static void lengths(String text) {
        Matcher method = Pattern.compile("(?m)^( {4}| {8})(?!if|for|while|switch)\\w[^=;\n]*\\([^\n]*\\) \\{\n(?s:.*?)\n\\1\\}")
            .matcher(text);
        int methods = 0;
        while (method.find()) {
            long lines = method.group().lines().count();
            due.holds("at most sixty lines: " + method.group().lines().findFirst().orElse(""), lines <= 60);
            methods++;
        }
        due.holds("the methods were found: " + methods, methods > FACE.length);
    }
}
