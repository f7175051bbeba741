import java.io.IOException;
import java.lang.reflect.Constructor;
import java.lang.reflect.Field;
import java.lang.reflect.Member;
import java.lang.reflect.Method;
import java.lang.reflect.Modifier;
import java.nio.file.Files;
import java.nio.file.Path;
import java.util.ArrayList;
import java.util.Arrays;
import java.util.List;
import java.util.Set;
import java.util.TreeSet;
import java.util.regex.Matcher;
import java.util.regex.Pattern;

/** The document's face, and those rules of LANGUAGE.md that can be seen from outside. */
public final class FaceTest {
    private static final Path SOURCE = Path.of("src/main/java/OppositionInBaskets.java");
    private static final String[] FACE = {
        "int set(int,int,int)", "int paper(int,int,int)", "int told(int,int)", "int burn(int)", "int feed(int)", "int text()",
        "int force(int)", "int division(int,int)", "int topics(int)", "int day()", "int run(int,int)", "int often(int)",
        "long power(int,int)", "int torn(int)", "int fewest(int)", "int stop(int,int)", "int goesWith(int,int)",
        "int tells(int,int,int)", "int film(int,int)", "int drawn(int,int)", "long chance(int,int,int,int)", "int image()",
        "int back()", "int count(int)", "int sheet(int,int,int)", "int cell(int,int,int)", "int copy(int,int,int,int,int)",
        "int papers(int,int,int,int)", "int taken(int,int)"};
    private static final Due due = new Due();

    public static void main(String[] args) throws IOException {
        constants();
        members();
        privateNames();
        fields();
        words();
        lengths();
        due.end();
    }

    private static void constants() {
        due.is("NONE", OppositionInBaskets.NONE, -1);
        due.is("BAD", OppositionInBaskets.BAD, -2);
        due.is("STATE", OppositionInBaskets.STATE, -3);
        due.is("FULL", OppositionInBaskets.FULL, -4);
        due.is("NO", OppositionInBaskets.NO, -4611686018427387904L);
    }

    private static void members() {
        Class<?> c = OppositionInBaskets.class;
        due.holds("public and final", Modifier.isPublic(c.getModifiers()) && Modifier.isFinal(c.getModifiers()));
        Set<String> seen = new TreeSet<>();
        for (Method m : c.getDeclaredMethods()) {
            if (Modifier.isPublic(m.getModifiers())) {
                String types = String.join(",", Arrays.stream(m.getParameterTypes()).map(Class::getName).toList());
                seen.add(m.getReturnType().getName() + " " + m.getName() + "(" + types + ")");
                due.holds(m + " is no static one", !Modifier.isStatic(m.getModifiers()));
            }
        }
        due.holds("the methods are " + seen, seen.equals(new TreeSet<>(List.of(FACE))));
        Set<String> constants = new TreeSet<>();
        for (Field f : c.getDeclaredFields()) {
            if (Modifier.isPublic(f.getModifiers())) {
                constants.add(f.getType().getName() + " " + f.getName());
            }
        }
        due.holds("the constants are " + constants,
            constants.equals(Set.of("int NONE", "int BAD", "int STATE", "int FULL", "long NO")));
        Constructor<?>[] made = c.getDeclaredConstructors();
        due.holds("one constructor", made.length == 1 && made[0].getParameterCount() == 0);
        List<Member> all = new ArrayList<>(List.of(c.getDeclaredMethods()));
        all.addAll(List.of(c.getDeclaredFields()));
        for (Member m : all) {
            int is = m.getModifiers();
            due.holds(m.getName() + " is public or private", Modifier.isPublic(is) || Modifier.isPrivate(is));
        }
        for (Class<?> inside : c.getDeclaredClasses()) {
            int is = inside.getModifiers();
            due.holds(inside + " is static", Modifier.isStatic(is) && !Modifier.isPublic(is) && !Modifier.isProtected(is));
        }
        due.holds("some twelve classes", c.getDeclaredClasses().length <= 11);
    }

    private static void privateNames() {
        Set<String> names = new TreeSet<>();
        for (String f : FACE) {
            names.add(f.replaceAll("\\w+ (\\w+).*", "$1"));
        }
        List<Class<?>> classes = new ArrayList<>(List.of(OppositionInBaskets.class.getDeclaredClasses()));
        classes.add(OppositionInBaskets.class);
        for (Class<?> c : classes) {
            for (Method m : c.getDeclaredMethods()) {
                boolean face = c == OppositionInBaskets.class && Modifier.isPublic(m.getModifiers());
                due.holds(m + " bears a name of its own", face || !names.contains(m.getName()));
                due.holds(m + " takes at most seven", m.getParameterCount() <= 7);
            }
        }
    }

    private static void fields() {
        List<Class<?>> classes = new ArrayList<>(List.of(OppositionInBaskets.class.getDeclaredClasses()));
        classes.add(OppositionInBaskets.class);
        for (Class<?> c : classes) {
            int own = 0;
            for (Field f : c.getDeclaredFields()) {
                if (Modifier.isStatic(f.getModifiers())) {
                    due.holds(f + " is final", Modifier.isFinal(f.getModifiers()));
                } else {
                    own++;
                }
            }
            due.holds(c + " has some twenty fields", own <= 20);
        }
    }

    private static String bare() throws IOException {
        String s = Files.readString(SOURCE);
        return s.replaceAll("(?s)/\\*.*?\\*/", " ").replaceAll("//[^\\n]*", " ").replaceAll("\"[^\"\\n]*\"", "\"\"");
    }

    private static void words() throws IOException {
        String s = bare();
        String[] refused = {"\\bthrow\\b", "\\bthrows\\b", "\\btry\\b", "\\bcatch\\b", "\\bsynchronized\\b", "\\bassert\\b", "->", "::",
            "\\bpackage\\b", "\\bprotected\\b", "\\bstatic\\s*\\{", "Exact\\b", "\\bObject\\b", "\\bRandom\\b", "\\bhashCode\\b",
            "\\btoString\\b", "\\bThread\\b", "\\bfloat\\b", "\\bdouble\\b", "\\bnew\\s+\\w+\\([^)]*\\)\\s*\\{"};
        for (String r : refused) {
            Matcher m = Pattern.compile(r).matcher(s);
            due.holds("none of " + r, !m.find());
        }
        Matcher m = Pattern.compile("import ([\\w.]+);").matcher(s);
        while (m.find()) {
            due.holds("import " + m.group(1), m.group(1).equals("java.util.Arrays"));
        }
    }

    /** A method begins with a line that opens a brace at its class's depth and ends where that closes. */
    private static void lengths() throws IOException {
        int begun = -1;
        int indent = 0;
        List<String> lines = Files.readAllLines(SOURCE);
        for (int i = 0; i < lines.size(); i++) {
            String line = lines.get(i);
            if (begun < 0 && line.matches(" {4,8}[\\w\\[\\] ]+\\(.*\\) \\{") && !line.matches(" *(if|for|while|switch).*")) {
                begun = i;
                indent = line.indexOf(line.trim());
            } else if (begun >= 0 && line.equals(" ".repeat(indent) + "}")) {
                due.holds("line " + (begun + 1) + ": some sixty lines", i - begun < 60);
                begun = -1;
            }
        }
        due.holds("each method ends", begun < 0);
    }
}
