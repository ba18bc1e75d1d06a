import java.lang.reflect.Constructor;
import java.lang.reflect.Field;
import java.lang.reflect.Method;
import java.lang.reflect.Modifier;
import java.nio.file.Files;
import java.nio.file.Path;
import java.util.Arrays;
import java.util.Set;
import java.util.TreeSet;

/** The public face, and those rules of LANGUAGE.md that can be seen in the class or its text. */
public final class FaceTest {
    private static final Check CHECK = new Check("FaceTest");

    private static final String[] METHODS = {
        "int point(int,int,int)", "int move(int,int,int,int)", "int clear(int)", "int at(int,int,int)",
        "int copy(int,int,boolean)", "long twice(int)", "int simple(int)", "int winds(int,int,int)", "int rod(int)",
        "long told(int,int,int)", "int can(int)", "int rail(int,int,int)", "long shut(int,int)",
        "long geared(int,int,int)", "long moment(int,int,int)", "int arm(int,int,int,int)", "long ring(int,int)",
        "int reaches(int)", "int teeth(int,int)", "long count(int)", "long may(int,int,int,int,int)",
        "int fits(int,int,int,int)", "int join(int,int,int,int)", "int part(int,int,int)"
    };
    private static final String[] CONSTANTS = {"NONE", "UNKNOWN", "OUTSIDE", "STATE", "FULL", "NO", "LOST"};

    public static void main(String[] args) throws Exception {
        constants();
        methods();
        members();
        text();
        CHECK.end();
    }

    private static void constants() {
        CHECK.due("NONE", DrawnAreas.NONE, -6);
        CHECK.due("UNKNOWN", DrawnAreas.UNKNOWN, -1);
        CHECK.due("OUTSIDE", DrawnAreas.OUTSIDE, -2);
        CHECK.due("STATE", DrawnAreas.STATE, -3);
        CHECK.due("FULL", DrawnAreas.FULL, -4);
        CHECK.due("NO", DrawnAreas.NO, -5);
        CHECK.due("LOST", DrawnAreas.LOST, -1000000000000000000L);
    }

    private static void methods() {
        Set<String> open = new TreeSet<>();
        Set<String> names = new TreeSet<>();
        for (Method m : DrawnAreas.class.getDeclaredMethods()) {
            if (Modifier.isPublic(m.getModifiers())) {
                String types = Arrays.toString(m.getParameterTypes()).replaceAll("[\\[\\] ]", "");
                open.add(m.getReturnType() + " " + m.getName() + "(" + types + ")");
                names.add(m.getName());
            }
        }
        CHECK.holds("the public methods are those of the document: " + open,
            open.equals(new TreeSet<>(Arrays.asList(METHODS))));
        for (Method m : DrawnAreas.class.getDeclaredMethods()) {
            if (!Modifier.isPublic(m.getModifiers())) {
                CHECK.holds(m.getName() + " is private", Modifier.isPrivate(m.getModifiers()));
                CHECK.holds(m.getName() + " bears no public name", !names.contains(m.getName()));
            }
        }
        for (Class<?> inside : DrawnAreas.class.getDeclaredClasses()) {
            CHECK.holds(inside + " is static", Modifier.isStatic(inside.getModifiers()));
            CHECK.holds(inside + " is hidden", !Modifier.isPublic(inside.getModifiers()));
            for (Method m : inside.getDeclaredMethods()) {
                CHECK.holds(m.getName() + " bears no public name", !names.contains(m.getName()));
            }
        }
    }

    private static void members() {
        CHECK.holds("the class is public and final",
            Modifier.isPublic(DrawnAreas.class.getModifiers()) && Modifier.isFinal(DrawnAreas.class.getModifiers()));
        Constructor<?>[] made = DrawnAreas.class.getDeclaredConstructors();
        CHECK.due("constructors", made.length, 1);
        CHECK.holds("the constructor is public and bare",
            Modifier.isPublic(made[0].getModifiers()) && made[0].getParameterCount() == 0);
        for (Field f : DrawnAreas.class.getDeclaredFields()) {
            boolean known = Arrays.asList(CONSTANTS).contains(f.getName());
            CHECK.holds(f.getName() + " is private or a constant", known != Modifier.isPrivate(f.getModifiers()));
            if (Modifier.isStatic(f.getModifiers())) {
                CHECK.holds(f.getName() + " is final", Modifier.isFinal(f.getModifiers()));
            }
        }
    }

    private static void text() throws Exception {
        String text = Files.readString(Path.of("src/main/java/DrawnAreas.java"));
        String bare = text.replaceAll("(?s)/\\*.*?\\*/", "").replaceAll("//[^\n]*", "");
        for (String word : new String[] {
            "import ", "package ", "catch", "finally", "->", "::", "Exact", "synchronized", "assert ", "double ",
            "float ", "System.", "static {"}) {
            CHECK.holds("the text has no '" + word + "'", !bare.contains(word));
        }
    }
}
