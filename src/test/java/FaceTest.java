import java.lang.reflect.Constructor;
import java.lang.reflect.Field;
import java.lang.reflect.Method;
import java.lang.reflect.Modifier;
import java.nio.file.Files;
import java.nio.file.Path;
import java.util.Arrays;
import java.util.Set;
import java.util.TreeSet;
import java.util.regex.Pattern;

/** The public face of the document, and the rules of LANGUAGE.md that can be seen from outside. */
public final class FaceTest {
    private static final Check CHECK = new Check("face");
    private static final String[] FACE = {
        "int feed(int,int,int,int)", "int cut(int)", "int told(int)", "int word(int,int)", "int rule(boolean)",
        "int fresh()", "int reload()", "int left(int,int)", "int alternative(int,int,int)", "int input()",
        "int longest(int)", "int graph()", "int size(int)", "int match(int,int)", "int edge(int,int)",
        "long phrases()", "int phrase(long,int)", "long weight(long)", "long which()", "long heaviest()",
        "int position(int,int)", "long rows(int)", "int row(int,long,int)", "int document()", "int hits()",
        "int hit(int,int)", "long hitWeight(int)"};

    public static void main(String[] args) throws Exception {
        constants();
        members();
        classesInside();
        source(Files.readString(Path.of("src/main/java/SynonymGraphs.java")));
        CHECK.end();
    }

    private static void constants() {
        CHECK.due("BAD", SynonymGraphs.BAD, -1);
        CHECK.due("NONE", SynonymGraphs.NONE, -2);
        CHECK.due("FULL", SynonymGraphs.FULL, -3);
    }

    private static void members() {
        Class<?> face = SynonymGraphs.class;
        CHECK.due("public final", face.getModifiers(), Modifier.PUBLIC | Modifier.FINAL);
        Set<String> found = new TreeSet<>();
        for (Method method : face.getDeclaredMethods()) {
            if (!Modifier.isPrivate(method.getModifiers()) && !method.isSynthetic()) {
                String types = Arrays.toString(method.getParameterTypes()).replaceAll("[\\[\\] ]", "");
                found.add(method.getReturnType() + " " + method.getName() + "(" + types + ")");
                CHECK.due(method.getName() + " is public", method.getModifiers(), Modifier.PUBLIC);
            }
        }
        CHECK.holds("the methods are " + found, found.equals(new TreeSet<>(Arrays.asList(FACE))));
        Set<String> fields = new TreeSet<>();
        for (Field field : face.getDeclaredFields()) {
            if (!Modifier.isPrivate(field.getModifiers())) {
                fields.add(field.getName());
            }
            CHECK.holds(field.getName() + " is final if it is static",
                    !Modifier.isStatic(field.getModifiers()) || Modifier.isFinal(field.getModifiers()));
        }
        CHECK.holds("the fields are " + fields, fields.equals(Set.of("BAD", "NONE", "FULL")));
        Constructor<?>[] constructors = face.getDeclaredConstructors();
        CHECK.due("constructors", constructors.length, 1);
        CHECK.due("its parameters", constructors[0].getParameterCount(), 0);
    }

    private static void classesInside() {
        Set<String> names = new TreeSet<>();
        for (String one : FACE) {
            names.add(one.replaceAll("^[a-z]+ |\\(.*", ""));
        }
        Class<?>[] inside = SynonymGraphs.class.getDeclaredClasses();
        CHECK.holds("at most twelve classes", inside.length + 1 <= 12);
        for (Class<?> one : inside) {
            CHECK.holds(one + " is static", Modifier.isStatic(one.getModifiers()));
            int fields = 0;
            for (Field field : one.getDeclaredFields()) {
                fields += Modifier.isStatic(field.getModifiers()) ? 0 : 1;
            }
            CHECK.holds(one + " has some twenty fields at most", fields <= 20);
            for (Method method : one.getDeclaredMethods()) {
                CHECK.holds(method + " bears no name of the face", !names.contains(method.getName()));
                CHECK.holds(method + " has seven parameters at most", method.getParameterCount() <= 7);
            }
        }
    }

    private static void source(String text) {
        String code = text.replaceAll("(?s)/\\*.*?\\*/", "").replaceAll("//[^\n]*", "");
        String[] wrong = {"\\bthrow", "\\btry\\b", "\\bcatch\\b", "\\bsynchronized\\b", "\\bassert\\b", "->", "::",
            "\\bpackage\\b", "\\bString\\b", "\\bSystem\\.(?!arraycopy)", "Exact\\(", "\\bwhile *\\(true", "for *\\(;;"};
        for (String one : wrong) {
            CHECK.holds("no " + one, !Pattern.compile(one).matcher(code).find());
        }
        CHECK.due("imports", code.split("\\bimport\\b", -1).length - 1, 1);
        CHECK.holds("the import", code.contains("import java.util.Arrays;"));
    }
}
