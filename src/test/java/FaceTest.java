import java.lang.reflect.Constructor;
import java.lang.reflect.Field;
import java.lang.reflect.Method;
import java.lang.reflect.Modifier;
import java.nio.file.Files;
import java.nio.file.Path;
import java.util.ArrayList;
import java.util.Arrays;
import java.util.List;
import java.util.Set;
import java.util.TreeSet;
import java.util.regex.Matcher;
import java.util.regex.Pattern;

/** The face of the document, and what of ../shared/LANGUAGE.md can be seen from outside or by plain reading. */
final class FaceTest {
    private static final String[] FACE = {
        "int cups(int)", "int pea(int)", "int pass(int,int,int)", "int of(int,int)", "int change(int,int)", "int back()",
        "int where(int)", "int goes(int,int)", "int moves()", "int eye(int,int,int)", "long weight(int,int,int)",
        "int guess(int)", "long right(int)", "int lost(int)", "int both(int,int)", "int may(int)", "int watch(int)",
        "int feint(int)", "int kindFor(int,int)", "long misled(int,int,int)", "int row(int,int,int,int)", "int feints(int)",
        "int surely(int,int)", "int rings()", "int orders(int)", "int player(int,int,int)", "int told(int,int)",
        "int round(int,int)", "int play(int,int)", "int best(int,int)", "int should(int,int)", "int richest(int)",
        "int now(int)", "int shuffle(int)", "int seed(int)", "int feed(int,int)", "int wipe()", "int text()",
        "int hold(int,int)", "int as(int,int)", "int sheet(int,int,int)", "int write(int,int,int)",
        "int copy(int,int,int,int,int)", "int load(int)", "int judge(int)", "int image()", "int undo()", "int tear()",
        "int count(int)", "int status(int)"};

    public static void main(String[] args) throws Exception {
        methods();
        members();
        classesInside();
        source(Files.readString(Path.of(args.length > 0 ? args[0] : "src/main/java/CupsAndPea.java")));
        Check.end();
    }

    private static void methods() {
        Set<String> found = new TreeSet<>();
        for (Method m : CupsAndPea.class.getDeclaredMethods()) {
            if (!Modifier.isPrivate(m.getModifiers())) {
                List<String> types = new ArrayList<>();
                for (Class<?> type : m.getParameterTypes()) {
                    types.add(type.getName());
                }
                String kind = m.getModifiers() == Modifier.PUBLIC ? "" : Modifier.toString(m.getModifiers()) + " ";
                found.add(kind + m.getReturnType().getName() + " " + m.getName() + "(" + String.join(",", types) + ")");
            }
        }
        Check.same("public methods", String.join("\n", new TreeSet<>(Arrays.asList(FACE))), String.join("\n", found));
    }

    private static void members() {
        Check.due("public and final", Modifier.PUBLIC | Modifier.FINAL, CupsAndPea.class.getModifiers());
        Constructor<?>[] made = CupsAndPea.class.getDeclaredConstructors();
        Check.due("constructors", 1, made.length);
        Check.due("public constructor", Modifier.PUBLIC, made[0].getModifiers());
        Check.due("its parameters", 0, made[0].getParameterCount());
        for (Field f : CupsAndPea.class.getDeclaredFields()) {
            Check.due("private: " + f, 1, Modifier.isPrivate(f.getModifiers()) ? 1 : 0);
        }
    }

    private static void classesInside() {
        Set<String> face = new TreeSet<>();
        for (String call : FACE) {
            face.add(call.substring(call.indexOf(' ') + 1, call.indexOf('(')));
        }
        List<Class<?>> all = new ArrayList<>(Arrays.asList(CupsAndPea.class.getDeclaredClasses()));
        Check.due("at most twelve", 1, all.size() + 1 <= 12 ? 1 : 0);
        for (Class<?> inside : all) {
            Check.due("static and not public: " + inside, 1,
                Modifier.isStatic(inside.getModifiers()) && !Modifier.isPublic(inside.getModifiers()) ? 1 : 0);
            for (Method m : inside.getDeclaredMethods()) {
                Check.due("no name of the face: " + m, 0, face.contains(m.getName()) ? 1 : 0);
            }
        }
        all.add(CupsAndPea.class);
        for (Class<?> one : all) {
            int own = 0;
            for (Field f : one.getDeclaredFields()) {
                boolean isStatic = Modifier.isStatic(f.getModifiers());
                own += isStatic ? 0 : 1;
                Check.due("static fields are final: " + f, 1, !isStatic || Modifier.isFinal(f.getModifiers()) ? 1 : 0);
            }
            Check.due("at most twenty fields: " + one, 1, own <= 20 ? 1 : 0);
            for (Method m : one.getDeclaredMethods()) {
                Check.due("at most seven parameters: " + m, 1, m.getParameterCount() <= 7 ? 1 : 0);
                if (Modifier.isPrivate(m.getModifiers())) {
                    Check.due("a name of its own: " + m, 0, face.contains(m.getName()) ? 1 : 0);
                }
            }
        }
    }

    private static void source(String text) {
        String code = text.replaceAll("(?s)/\\*.*?\\*/", "").replaceAll("//[^\n]*", "");
        String[] never = {"\\bthrow\\b", "\\btry\\b", "\\bcatch\\b", "\\bsynchronized\\b", "\\bassert\\b", "\\bimport\\b", "->", "::",
            "\\bpackage\\b", "\\+ *\"", "\" *\\+", "Exact\\b", "\\bSystem\\.(?!arraycopy)", "\\bprotected\\b", "\\bstatic *\\{"};
        for (String word : never) {
            Matcher m = Pattern.compile(word).matcher(code);
            if (m.find()) {
                Check.fail("not in the language: " + m.group());
            }
        }
        for (char sign : text.toCharArray()) {
            if (sign > 126) {
                Check.fail("not a plain sign: " + (int) sign);
            }
        }
        // The room is small: an object is made only with the object that it belongs to.
        for (String line : code.split("\n")) {
            boolean withTheObject = line.matches("\\s+(private )?final [\\w\\[\\]]+ \\w+ = new .*;")
                || line.matches("\\s+\\w+\\[\\w\\] = new \\w+\\(\\);");
            Check.due("made with the object: " + line.trim(), 1, !line.contains("new ") || withTheObject ? 1 : 0);
        }
    }
}
