import java.io.IOException;
import java.lang.reflect.Constructor;
import java.lang.reflect.Field;
import java.lang.reflect.Method;
import java.lang.reflect.Modifier;
import java.nio.file.Files;
import java.nio.file.Path;
import java.util.ArrayList;
import java.util.Arrays;
import java.util.List;
import java.util.Set;
import java.util.TreeSet;
import java.util.regex.Matcher;
import java.util.regex.Pattern;

/** What of LANGUAGE.md can be seen from the class and its text. */
public final class RulesTest {
    private static final Path SOURCE = Path.of("src/main/java/QuarrelKeys.java");
    private static final String[] FACE = {
        "int status()", "long top()", "long bottom()", "boolean tray(int,int,int)", "boolean write(int,int,long)",
        "long read(int,int)", "boolean pour(int,int,int,int,int)", "int feed(int,int,int,int,int)", "int quarter(int)",
        "int decades(int)", "int fault(int)", "int many(int)", "int person(int,int)", "int stair(int,int)",
        "int likes(int,int)", "int copyLives(int)", "int quarrel(int)", "int makeUp(int)", "int night(int)",
        "int calm(int,int)", "int tell(int,int,int)", "int swap(int,int)", "int come()", "int build(int,int)",
        "boolean rule(int,int)", "int ring(int)", "int ringAt(int,int)", "int rings()", "int undo()", "int homeward()",
        "int homewardAt(int)", "int toward(int)", "int towardAt(int,int)", "int ways()", "int fits(int,int,int)",
        "int firstAt(int,int,int,int)", "int ask(int,int,int)", "int trade(int)", "int best()", "int bestOf(int)",
        "int envy()", "int vote(int,int)", "int winner()", "int game(int,int,int)", "int moveOf(int,int,int)",
        "boolean drift(int,int,int)", "int live(int)", "int lived(int)", "boolean mean(int,int)", "int mark()",
        "int back()"};

    public static void main(String[] args) throws IOException {
        theFaceIsTheDocuments();
        classesInsideArePlain();
        wordsThatMayNotStand(withoutComments(Files.readString(SOURCE)));
        methodsAreShort(Files.readString(SOURCE));
        Check.end("RulesTest");
    }

    private static String signature(Method m) {
        StringBuilder all = new StringBuilder(m.getReturnType().getName() + " " + m.getName() + "(");
        for (int i = 0; i < m.getParameterCount(); i++) {
            all.append(i == 0 ? "" : ",").append(m.getParameterTypes()[i].getName());
        }
        return all.append(')').toString();
    }

    private static void theFaceIsTheDocuments() {
        Class<?> c = QuarrelKeys.class;
        Check.due("public and final", Modifier.isPublic(c.getModifiers()) && Modifier.isFinal(c.getModifiers()), true);
        Set<String> open = new TreeSet<>();
        Set<String> openNames = new TreeSet<>();
        Set<String> hiddenNames = new TreeSet<>();
        for (Method m : c.getDeclaredMethods()) {
            if (m.isSynthetic()) {
                continue;
            }
            if (Modifier.isPrivate(m.getModifiers())) {
                hiddenNames.add(m.getName());
            } else {
                Check.due(m + " is public", Modifier.isPublic(m.getModifiers()), true);
                open.add(signature(m));
                openNames.add(m.getName());
            }
        }
        for (Class<?> inside : c.getDeclaredClasses()) {
            for (Method m : inside.getDeclaredMethods()) {
                hiddenNames.add(m.getName());
            }
        }
        Check.due("the public methods", open.toString(), new TreeSet<>(Arrays.asList(FACE)).toString());
        hiddenNames.retainAll(openNames);
        Check.due("other methods with a public name", hiddenNames.toString(), "[]");
        for (Field f : c.getDeclaredFields()) {
            boolean isNone = f.getName().equals("NONE");
            Check.due(f + " is private but for NONE", Modifier.isPrivate(f.getModifiers()), !isNone);
        }
        Constructor<?>[] made = c.getDeclaredConstructors();
        Check.due("one constructor", made.length, 1);
        Check.due("it is public", Modifier.isPublic(made[0].getModifiers()), true);
    }

    private static void classesInsideArePlain() {
        Class<?>[] inside = QuarrelKeys.class.getDeclaredClasses();
        Check.due("at most twelve classes", inside.length + 1 <= 12, true);
        List<Class<?>> all = new ArrayList<>(Arrays.asList(inside));
        for (Class<?> c : all) {
            Check.due(c + " is static", Modifier.isStatic(c.getModifiers()), true);
            Check.due(c + " is not public", Modifier.isPublic(c.getModifiers()), false);
        }
        all.add(QuarrelKeys.class);
        for (Class<?> c : all) {
            int fields = 0;
            for (Field f : c.getDeclaredFields()) {
                if (Modifier.isStatic(f.getModifiers())) {
                    Check.due(f + " is final", Modifier.isFinal(f.getModifiers()), true);
                } else {
                    fields++;
                }
            }
            Check.due(c + " has at most twenty fields", fields <= 20, true);
            for (Method m : c.getDeclaredMethods()) {
                Check.due(m + " takes at most seven", m.getParameterCount() <= 7, true);
            }
        }
    }

    private static String withoutComments(String text) {
        return text.replaceAll("(?s)/\\*.*?\\*/", " ").replaceAll("//[^\\n]*", " ");
    }

    private static void wordsThatMayNotStand(String code) {
        String[] wrong = {"\\bthrow\\b", "\\btry\\b", "\\bcatch\\b", "\\bsynchronized\\b", "\\bassert\\b", "\\bpackage\\b",
            "->", "::", "\"", "\\bvolatile\\b", "\\bExact\\b", "\\bfloat\\b", "\\bdouble\\b", "\\bSystem\\.(?!arraycopy)",
            "\\bMath\\.(?!max|min)", "\\bInteger\\.(?!bitCount)", "\\bimport\\b", "\\bObject\\b", "\\bfinally\\b",
            "\\bhashCode\\b", "\\btoString\\b", "[^\\x00-\\x7f]", "\\bprotected\\b"};
        for (String w : wrong) {
            Matcher m = Pattern.compile(w).matcher(code);
            Check.due(w + " stands in the program", m.find() ? "at " + m.start() : "nowhere", "nowhere");
        }
        // nothing is made but where an object is made: a call makes no objects
        int body = code.indexOf("public int status()");
        Matcher made = Pattern.compile("\\bnew \\w+").matcher(code.substring(body));
        while (made.find()) {
            int from = code.lastIndexOf('\n', body + made.start());
            String line = code.substring(from, code.indexOf('\n', body + made.start())).trim();
            Check.due(line + " is a final field", line.startsWith("final "), true);
        }
    }

    private static void methodsAreShort(String text) {
        String[] lines = text.split("\n");
        int begun = -1;
        for (int i = 0; i < lines.length; i++) {
            boolean head = lines[i].matches(" {4}( {4})?[a-zA-Z\\[\\] ]+\\(.*\\) \\{");
            begun = head ? i : begun;
            if (begun >= 0 && lines[i].matches(" {4}( {4})?\\}") && lines[i].indexOf('}') == indent(lines[begun])) {
                Check.due("line " + (begun + 1) + ": at most sixty lines", i - begun < 60, true);
                begun = -1;
            }
            Check.due("line " + (i + 1) + ": at most 120 signs", lines[i].length() <= 120, true);
        }
    }

    private static int indent(String line) {
        return line.length() - line.stripLeading().length();
    }
}
