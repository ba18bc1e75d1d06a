import java.lang.reflect.Constructor;
import java.lang.reflect.Field;
import java.lang.reflect.Method;
import java.lang.reflect.Modifier;
import java.nio.file.Files;
import java.nio.file.Path;
import java.util.Arrays;
import java.util.HashSet;
import java.util.Set;
import java.util.TreeSet;
import java.util.regex.Matcher;
import java.util.regex.Pattern;

/** The public face, and those rules of LANGUAGE.md that can be seen in the class or its text. */
public final class FaceTest {
    private static final Check CHECK = new Check("FaceTest");

    private static final String[] METHODS = {
        "int point(int,int,int)", "int move(int,int,int,int)", "int clear(int)", "int at(int,int,int)",
        "int copy(int,int,boolean)", "long twice(int)", "int simple(int)", "int winds(int,int,int)", "int rod(int)",
        "long told(int,int,int)", "int can(int)", "int rail(int,int,int)", "long shut(int,int)",
        "long geared(int,int,int)", "long moment(int,int,int)", "int arm(int,int,int,int)", "long ring(int,int)",
        "int reaches(int)", "int teeth(int,int)", "long count(int)", "long may(int,int,int,int,int)",
        "int fits(int,int,int,int)", "int join(int,int,int,int)", "int part(int,int,int)"
    };
    private static final String[] CONSTANTS = {"NONE", "UNKNOWN", "OUTSIDE", "STATE", "FULL", "NO", "LOST"};

    public static void main(String[] args) throws Exception {
        constants();
        methods();
        members();
        documentsFace();
        sizes();
        text();
        CHECK.end();
    }

    private static void constants() {
        CHECK.due("NONE", DrawnAreas.NONE, -6);
        CHECK.due("UNKNOWN", DrawnAreas.UNKNOWN, -1);
        CHECK.due("OUTSIDE", DrawnAreas.OUTSIDE, -2);
        CHECK.due("STATE", DrawnAreas.STATE, -3);
        CHECK.due("FULL", DrawnAreas.FULL, -4);
        CHECK.due("NO", DrawnAreas.NO, -5);
        CHECK.due("LOST", DrawnAreas.LOST, -1000000000000000000L);
    }

    private static void methods() {
        Set<String> open = new TreeSet<>();
        Set<String> names = new TreeSet<>();
        for (Method m : DrawnAreas.class.getDeclaredMethods()) {
            if (Modifier.isPublic(m.getModifiers())) {
                String types = Arrays.toString(m.getParameterTypes()).replaceAll("[\\[\\] ]", "");
                open.add(m.getReturnType() + " " + m.getName() + "(" + types + ")");
                names.add(m.getName());
            }
        }
        CHECK.holds("the public methods are those of the document: " + open,
            open.equals(new TreeSet<>(Arrays.asList(METHODS))));
        for (Method m : DrawnAreas.class.getDeclaredMethods()) {
            if (!Modifier.isPublic(m.getModifiers())) {
                CHECK.holds(m.getName() + " is private", Modifier.isPrivate(m.getModifiers()));
                CHECK.holds(m.getName() + " bears no public name", !names.contains(m.getName()));
            }
        }
        for (Class<?> inside : DrawnAreas.class.getDeclaredClasses()) {
            CHECK.holds(inside + " is static", Modifier.isStatic(inside.getModifiers()));
            CHECK.holds(inside + " is hidden", !Modifier.isPublic(inside.getModifiers()));
            for (Method m : inside.getDeclaredMethods()) {
                CHECK.holds(m.getName() + " bears no public name", !names.contains(m.getName()));
            }
        }
    }

    private static void members() {
        CHECK.holds("the class is public and final",
            Modifier.isPublic(DrawnAreas.class.getModifiers()) && Modifier.isFinal(DrawnAreas.class.getModifiers()));
        Constructor<?>[] made = DrawnAreas.class.getDeclaredConstructors();
        CHECK.due("constructors", made.length, 1);
        CHECK.holds("the constructor is public and bare",
            Modifier.isPublic(made[0].getModifiers()) && made[0].getParameterCount() == 0);
        for (Field f : DrawnAreas.class.getDeclaredFields()) {
            boolean known = Arrays.asList(CONSTANTS).contains(f.getName());
            CHECK.holds(f.getName() + " is private or a constant", known != Modifier.isPrivate(f.getModifiers()));
            if (Modifier.isStatic(f.getModifiers())) {
                CHECK.holds(f.getName() + " is final", Modifier.isFinal(f.getModifiers()));
            }
        }
    }

    /** The face as the document has it, so that METHODS above is no other. */
    private static void documentsFace() throws Exception {
        String page = Files.readString(Path.of("../shared/DOC.md"));
        int from = page.indexOf("```java\n");
        int to = page.indexOf("\n```\n", from);
        CHECK.holds("the document has a piece of Java", from >= 0 && to > from);
        if (from < 0 || to <= from) {
            return;
        }
        Matcher call = Pattern.compile("public (int|long) (\\w+)\\(([^)]*)\\);").matcher(page.substring(from, to));
        Set<String> told = new TreeSet<>();
        while (call.find()) {
            told.add(call.group(1) + " " + call.group(2) + "(" + call.group(3).replaceAll("(\\w+) \\w+", "$1").replace(" ", "") + ")");
        }
        CHECK.holds("the document's methods: " + told, told.equals(new TreeSet<>(Arrays.asList(METHODS))));
    }

    /** Rule 11, as far as it can be seen from outside. */
    private static void sizes() {
        Set<Class<?>> all = new HashSet<>(Arrays.asList(DrawnAreas.class.getDeclaredClasses()));
        CHECK.holds("twelve classes at most", all.size() < 12);
        all.add(DrawnAreas.class);
        for (Class<?> c : all) {
            int fields = 0;
            for (Field f : c.getDeclaredFields()) {
                fields += Modifier.isStatic(f.getModifiers()) ? 0 : 1;
            }
            CHECK.holds(c.getName() + " has twenty fields at most", fields <= 20);
            for (Method m : c.getDeclaredMethods()) {
                CHECK.holds(m.getName() + " takes seven numbers at most", m.getParameterCount() <= 7);
            }
        }
    }

    private static void text() throws Exception {
        String text = Files.readString(Path.of("src/main/java/DrawnAreas.java"));
        String bare = text.replaceAll("(?s)/\\*.*?\\*/", "").replaceAll("//[^\n]*", "");
        for (String word : new String[] {
            "import ", "package ", "catch", "finally", "->", "::", "Exact", "synchronized", "assert ", "double ",
            "float ", "System.", "static {", "throw", "instanceof", "while"}) {
            CHECK.holds("the text has no '" + word + "'", !bare.contains(word));
        }
        CHECK.holds("the text's signs are 1 to 127", text.chars().allMatch(c -> c >= 1 && c <= 127));
        // Two rows of a figure, the row of figures and a figure: all of them in constructors.
        CHECK.due("things made", bare.split("\\bnew\\b", -1).length - 1, 4);
    }
}
