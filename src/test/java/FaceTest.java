import java.io.IOException;
import java.lang.reflect.Constructor;
import java.lang.reflect.Field;
import java.lang.reflect.Method;
import java.lang.reflect.Modifier;
import java.nio.file.Files;
import java.nio.file.Path;
import java.util.ArrayList;
import java.util.List;
import java.util.TreeSet;

/** The public face, and what of the rules of LANGUAGE.md can be seen from the class and its text. */
public final class FaceTest {
    private static final String SOURCE = "src/main/java/TwoAgree.java";
    private static final String FACE = "public int citizen(int); public int citizens(int, int, int);"
        + " public int mend(int, int, int); public int of(int, int); public int feed(int); public int law();"
        + " public int says(int); public int all(int); public int saying(int); public int claims(int, int, int);"
        + " public int happens(int, int); public int pay(int, int); public int payBoth(int, int);"
        + " public int pairs(int); public int strangers(int); public long likely(int, int, int);"
        + " public int liars(int, int); public int days(int, int); public int judge(int);"
        + " public int fits(int, int, int); public int byTurns(int, int, int); public int drawn(int, int, int);"
        + " public int claim(int); public int ends(); public int marry(int); public int paid(int, int);"
        + " public int led(int); public int image(); public int back(); public int undo(); public int redo();"
        + " public int body(int); public int act(int, int, int); public int trace(int); public int keep(int, int);"
        + " public int row(int, int, int); public int put(int, int, long); public long element(int, int);"
        + " public int shift(int, int, int, int, int); public int taken(int, int); public int count(int)";
    private static final String[] OUTSIDE_THE_RULES = {
        "\\bthrow\\b", "\\btry\\b", "\\bcatch\\b", "\\bsynchronized\\b", "\\bassert\\b", "->", "::",
        "\\bprotected\\b", "\\bRandom\\b", "\\bSystem\\.(?!arraycopy)", "Exact\\b", "\\bThread\\b",
        "\\bpackage\\b", "\\bObject\\b", "\\bhashCode\\b", "\\btoString\\b", "@"
    };

    public static void main(String[] args) throws IOException {
        constants();
        methods();
        namesApart();
        sizes();
        words();
        madeOnlyAtFirst();
        Due.end("FaceTest");
    }

    private static void constants() {
        Due.is("BAD", TwoAgree.BAD, -1);
        Due.is("NOT", TwoAgree.NOT, -2);
        Due.is("FULL", TwoAgree.FULL, -3);
        Due.is("STATE", TwoAgree.STATE, -5);
        Due.is("VOID", TwoAgree.VOID, -2000000000);
        int open = 0;
        for (Field field : TwoAgree.class.getDeclaredFields()) {
            open += Modifier.isPrivate(field.getModifiers()) ? 0 : 1;
        }
        Due.is("no other constant or field", open, 5);
    }

    private static void methods() {
        TreeSet<String> due = new TreeSet<>();
        for (String one : FACE.split("; ?")) {
            due.add(one.replace(" ", ""));
        }
        TreeSet<String> found = new TreeSet<>();
        for (Method method : TwoAgree.class.getDeclaredMethods()) {
            if (!Modifier.isPrivate(method.getModifiers())) {
                found.add(method.toString().replace("TwoAgree.", "").replace(" ", ""));
            }
        }
        due.removeIf(String::isEmpty);
        TreeSet<String> lacking = new TreeSet<>(due);
        lacking.removeAll(found);
        found.removeAll(due);
        Due.holds("lacking: " + lacking, lacking.isEmpty());
        Due.holds("too many: " + found, found.isEmpty());
        Due.is("41 calls", due.size(), 41);
        Constructor<?>[] constructors = TwoAgree.class.getDeclaredConstructors();
        Due.is("one constructor", constructors.length, 1);
        Due.holds("it is public", Modifier.isPublic(constructors[0].getModifiers()));
        Due.holds("the class is final", Modifier.isFinal(TwoAgree.class.getModifiers()));
    }

    private static void namesApart() {
        TreeSet<String> names = new TreeSet<>();
        for (Method method : TwoAgree.class.getDeclaredMethods()) {
            if (Modifier.isPublic(method.getModifiers())) {
                names.add(method.getName());
            }
        }
        List<Class<?>> classes = new ArrayList<>(List.of(TwoAgree.class.getDeclaredClasses()));
        classes.add(TwoAgree.class);
        for (Class<?> one : classes) {
            for (Method method : one.getDeclaredMethods()) {
                boolean isFace = one == TwoAgree.class && Modifier.isPublic(method.getModifiers());
                Due.holds("rule 1: " + method, isFace || !names.contains(method.getName()));
            }
        }
    }

    private static void sizes() {
        Due.holds("rule 11: twelve classes", TwoAgree.class.getDeclaredClasses().length + 1 <= 12);
        for (Class<?> one : TwoAgree.class.getDeclaredClasses()) {
            Due.holds("rule 2: static " + one, Modifier.isStatic(one.getModifiers()));
            int fields = 0;
            for (Field field : one.getDeclaredFields()) {
                boolean isStatic = Modifier.isStatic(field.getModifiers());
                fields += isStatic ? 0 : 1;
                Due.holds("rule 5: " + field, !isStatic || Modifier.isFinal(field.getModifiers()));
            }
            Due.holds("rule 11: twenty fields " + one, fields <= 20);
            for (Method method : one.getDeclaredMethods()) {
                Due.holds("rule 11: seven parameters " + method, method.getParameterCount() <= 7);
            }
        }
    }

    /** The text without what stands in comments. */
    private static String text() throws IOException {
        return Files.readString(Path.of(SOURCE)).replaceAll("(?s)/\\*.*?\\*/", "").replaceAll("//[^\n]*", "");
    }

    private static void words() throws IOException {
        String text = text();
        for (String word : OUTSIDE_THE_RULES) {
            Due.holds("outside the rules: " + word, !java.util.regex.Pattern.compile(word).matcher(text).find());
        }
        Due.is("one import", text.split("\\bimport\\b", -1).length - 1, 1);
        Due.holds("which is Arrays", text.contains("import java.util.Arrays;"));
        for (int i = 0; i < text.length(); i++) {
            if (text.charAt(i) > 126) {
                Due.holds("rule 4: a sign of " + (int) text.charAt(i), false);
            }
        }
    }

    /** All rows are made with the object: a call makes nothing, so a run's room holds however many calls come. */
    private static void madeOnlyAtFirst() throws IOException {
        for (String line : text().split("\n")) {
            boolean makes = line.matches(".*\\bnew\\b.*") || line.contains(".clone(") || line.contains(".copyOf");
            boolean atFirst = line.matches("\\s*(private )?final [\\w\\[\\]]+ \\w+ = new .*;")
                || line.trim().equals("shelves[i] = new Shelf();");
            Due.holds("made in a call: " + line.trim(), !makes || atFirst);
        }
    }
}
