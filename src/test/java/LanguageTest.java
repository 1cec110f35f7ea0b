import java.io.IOException;
import java.lang.reflect.Constructor;
import java.lang.reflect.Field;
import java.lang.reflect.Method;
import java.lang.reflect.Modifier;
import java.nio.file.Files;
import java.nio.file.Path;
import java.util.ArrayList;
import java.util.List;
import java.util.Set;
import java.util.TreeSet;
import java.util.regex.Matcher;
import java.util.regex.Pattern;

/** The public face, and those rules of LANGUAGE.md that can be seen from the source's signs. */
public final class LanguageTest {
    private static final Due due = new Due("language");
    private static final String FACE = "int name(int,int,int); int house(int,int,int); int letter(int,int,int,int,int);"
            + "int deal(int,int,int); int of(int,int); int sign(int); boolean end(int); int law(int); int filter(int);"
            + "int value(int,int); int read(int); boolean ring(int,boolean); int box(int,int,int,int);"
            + "int after(int,int); int seed(int); int share(int); int aside(int); int odds(int,int); int weighs();"
            + "int names(int); int drawn(); int goes(int); int says(); int child(int); int table(int,int);"
            + "boolean kind(int,int,int); int parts(int,int); int likely(int,int); int fit(); int named(int,int);"
            + "int sure(int,int); int most(); int both(int); int explains(int); int join(int); int bounds(int);"
            + "int years(int); int mornings(int,int,int); int asked(int,int,int); int pairs(); int ask();"
            + "int nearly(int); int shows(int,int,int,int); int least(int,int,int,int); boolean keep(int);"
            + "boolean again(int); int count(int); long row(int)";

    public static void main(String[] args) throws IOException {
        face();
        members();
        String source = Files.readString(Path.of("src/main/java/NamesOnLetters.java"));
        words(source);
        methodLengths(source);
        due.end();
    }

    private static void face() {
        Set<String> want = new TreeSet<>();
        for (String one : FACE.split(";")) {
            want.add(one.trim());
        }
        Set<String> got = new TreeSet<>();
        for (Method m : NamesOnLetters.class.getDeclaredMethods()) {
            if (!Modifier.isPrivate(m.getModifiers())) {
                List<String> types = new ArrayList<>();
                for (Class<?> type : m.getParameterTypes()) {
                    types.add(type.getName());
                }
                got.add(m.getReturnType().getName() + " " + m.getName() + "(" + String.join(",", types) + ")");
                due.is(m + " is public", Modifier.isPublic(m.getModifiers()), true);
                boolean throwing = Set.of("of", "value", "row").contains(m.getName());
                due.is(m + " tells its exception", m.getExceptionTypes().length, throwing ? 1 : 0);
            }
        }
        due.is("the face is " + got, got.equals(want), true);
        Constructor<?>[] constructors = NamesOnLetters.class.getDeclaredConstructors();
        due.is("constructors", constructors.length, 1);
        due.is("a public constructor", Modifier.isPublic(constructors[0].getModifiers()), true);
        due.is("a final class", Modifier.isFinal(NamesOnLetters.class.getModifiers()), true);
    }

    private static void members() {
        for (Field f : NamesOnLetters.class.getDeclaredFields()) {
            due.is(f.getName(), Modifier.isPrivate(f.getModifiers()), !f.getName().equals("NONE"));
        }
        Set<String> face = new TreeSet<>();
        for (Method m : NamesOnLetters.class.getDeclaredMethods()) {
            if (Modifier.isPublic(m.getModifiers())) {
                face.add(m.getName());
            }
        }
        List<Class<?>> classes = new ArrayList<>(List.of(NamesOnLetters.class.getDeclaredClasses()));
        classes.add(NamesOnLetters.class);
        due.is("at most twelve classes", classes.size() <= 12, true);
        for (Class<?> c : classes) {
            int own = 0;
            for (Field f : c.getDeclaredFields()) {
                boolean isStatic = Modifier.isStatic(f.getModifiers());
                due.is(f + " is final, if it is static", !isStatic || Modifier.isFinal(f.getModifiers()), true);
                own += isStatic ? 0 : 1;
            }
            due.is(c.getName() + " has some twenty fields", own <= 20, true);
            for (Method m : c.getDeclaredMethods()) {
                boolean clash = !Modifier.isPublic(m.getModifiers()) && face.contains(m.getName());
                due.is(m + " bears the name of a public one", clash, false);
                due.is(m + " has at most seven parameters", m.getParameterCount() <= 7, true);
            }
        }
    }

    private static void words(String source) {
        String code = source.replaceAll("(?s)/\\*.*?\\*/", "").replaceAll("//[^\n]*", "");
        String[] never = {"\\bcatch\\b", "\\btry\\b", "\\bfinally\\b", "->", "::", "\\bsynchronized\\b", "\\bassert\\b",
            "\\binstanceof\\b", "\\bpackage\\b", "Exact\\b", "\\bSystem\\b", "\\bThread\\b", "\\bRandom\\b",
            "\\bInteger\\.valueOf\\b", "\\bstatic\\s*\\{", "\\bdouble\\b", "\\bfloat\\b", "\\bequals\\b", "\\bhashCode\\b",
            "\\btoString\\b", "\\bprotected\\b", "\\bBigInteger\\b", "\\bObject\\b", "\\bvar\\b"};
        for (String word : never) {
            due.is("stands in the source: " + word, Pattern.compile(word).matcher(code).find(), false);
        }
        Matcher imports = Pattern.compile("\\bimport\\b[^;]*;").matcher(code);
        while (imports.find()) {
            due.is(imports.group(), imports.group().equals("import java.util.NoSuchElementException;"), true);
        }
        Matcher thrown = Pattern.compile("throw new (\\w+)\\((\"[^\"]*\")?\\)").matcher(code);
        int count = 0;
        while (thrown.find()) {
            due.is(thrown.group(), thrown.group(1).equals("NoSuchElementException"), true);
            count++;
        }
        due.is("throws", count, 3);
        due.is("only signs 1 to 127", source.chars().allMatch(c -> c > 0 && c < 128), true);
        due.is("no line of more than 120 signs", source.lines().allMatch(l -> l.length() <= 120), true);
    }

    /** A method's head and end stand 4 or 8 signs in, and nothing else with a brace does but classes. */
    private static void methodLengths(String source) {
        String[] lines = source.split("\n");
        for (int from = 0; from < lines.length; from++) {
            String line = lines[from];
            int in = line.length() - line.stripLeading().length();
            if ((in == 4 || in == 8) && line.endsWith("{") && !line.contains(" class ") && line.contains("(")) {
                int to = from;
                while (!lines[to].equals(" ".repeat(in) + "}")) {
                    to++;
                }
                due.is("at most sixty lines: " + line.trim(), to - from + 1 <= 60, true);
            }
        }
    }
}
