import java.lang.reflect.Constructor;
import java.lang.reflect.Field;
import java.lang.reflect.Method;
import java.lang.reflect.Modifier;
import java.nio.file.Files;
import java.nio.file.Path;
import java.util.Arrays;
import java.util.List;
import java.util.Set;
import java.util.TreeSet;

/** The public face: LANGUAGE.md, number 1; the other rules are LanguageTest's. */
final class FaceTest {
    private static final String[] FACE = {
        "int thing(int,int)", "int things(int,int,int)", "int mend(int,int,int)", "int of(int,int)", "int feed(int)",
        "int law()", "int gives(int,int)", "int run(int,int,int)", "int tint(int,int,int)", "int safe(int,int,int)",
        "int together(int,int)", "int heat(int,int)", "int cloths(int,int)", "int heaps(int,int,int)",
        "int cost(int,int,int)", "int alone(int,int)", "int late(int,int)", "int soon(int,int)", "int swap(int)",
        "int line(int,int,int)", "int rain(int,int)", "int order(int,int)", "int judge(int,int,int)",
        "int which(int,int,int,int)", "int heatOfIt(int,int)", "int sock(int,int,int,int)", "int test(int,int)",
        "int drawn(int,int,int)", "int wash(int,int)", "int bleach(int)", "int throwAway(int)", "int led(int)",
        "int image()", "int back()", "int undo()", "int redo()", "int body(int)", "int act(int,int,int)",
        "int trace(int)", "int keep(int,int)", "int row(int,int,int)", "int put(int,int,long)",
        "long element(int,int)", "int shift(int,int,int,int,int)", "int taken(int,int)", "int count(int)"};

    public static void main(String[] args) throws Exception {
        constants();
        members();
        nested();
        text(Files.readAllLines(Path.of("src/main/java/WithTheReds.java")));
        Due.end();
    }

    private static void constants() {
        Due.is("BAD", WithTheReds.BAD, -1);
        Due.is("NOT", WithTheReds.NOT, -2);
        Due.is("FULL", WithTheReds.FULL, -3);
        Due.is("STATE", WithTheReds.STATE, -5);
        Due.is("VOID", WithTheReds.VOID, -2000000000);
    }

    private static void members() {
        Class<?> c = WithTheReds.class;
        Due.that("public", Modifier.isPublic(c.getModifiers()));
        Due.that("final", Modifier.isFinal(c.getModifiers()));
        Constructor<?>[] made = c.getDeclaredConstructors();
        Due.is("constructors", made.length, 1);
        Due.is("constructor's parameters", made[0].getParameterCount(), 0);
        Due.that("public constructor", Modifier.isPublic(made[0].getModifiers()));
        Set<String> seen = new TreeSet<>();
        for (Method m : c.getDeclaredMethods()) {
            if (Modifier.isPublic(m.getModifiers())) {
                Due.that(m.getName() + " is of the object", !Modifier.isStatic(m.getModifiers()));
                seen.add(m.getReturnType() + " " + m.getName()
                        + Arrays.toString(m.getParameterTypes()).replace(" ", "").replace('[', '(').replace(']', ')'));
            } else {
                Due.that(m.getName() + " is private", Modifier.isPrivate(m.getModifiers()));
            }
        }
        Due.that("the face is " + seen, seen.equals(new TreeSet<>(Arrays.asList(FACE))));
        List<String> constants = List.of("BAD", "NOT", "FULL", "STATE", "VOID");
        for (Field f : c.getDeclaredFields()) {
            boolean isFace = constants.contains(f.getName());
            Due.that(f.getName(), isFace ? Modifier.isPublic(f.getModifiers()) : Modifier.isPrivate(f.getModifiers()));
            Due.that(f.getName() + " is final", Modifier.isFinal(f.getModifiers()));
        }
    }

    /** No method inside bears the name of a public one. */
    private static void nested() {
        Set<String> names = new TreeSet<>();
        for (String line : FACE) {
            names.add(line.substring(line.indexOf(' ') + 1, line.indexOf('(')));
        }
        for (Class<?> c : WithTheReds.class.getDeclaredClasses()) {
            for (Method m : c.getDeclaredMethods()) {
                Due.that(m + " bears a name of its own", !names.contains(m.getName()));
            }
        }
    }

    private static void text(List<String> lines) {
        for (int i = 0; i < lines.size(); i++) {
            Due.that("line " + (i + 1) + " is short", lines.get(i).length() <= 120);
            Due.that("line " + (i + 1) + " is of signs below 128", lines.get(i).chars().allMatch(c -> c < 128));
        }
    }
}
