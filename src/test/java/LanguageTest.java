import java.lang.reflect.Constructor;
import java.lang.reflect.Field;
import java.lang.reflect.Method;
import java.lang.reflect.Modifier;
import java.nio.file.Files;
import java.nio.file.Path;
import java.util.ArrayList;
import java.util.Arrays;
import java.util.List;
import java.util.Map;
import java.util.Set;
import java.util.TreeMap;
import java.util.TreeSet;
import java.util.regex.Matcher;
import java.util.regex.Pattern;

/** The rules of LANGUAGE.md that a look at the source or at the face can tell. */
public final class LanguageTest {
    private static final String[] FACE = {
        "int type(int,int)", "int wipe(int)", "int undo(int)", "int fault(int)", "int caller(int,int)",
        "int man(int,int)", "int card(int,int)", "int back()", "int read(int)", "int stands(int,int)",
        "int name(int)", "int door(int,int)", "int warmth(int)", "int coldest()", "int first(int)",
        "int sent()", "int wrong()", "int sum()", "int leave(int,int)", "int begin(int,int)",
        "int patience(int)", "int burn(int)", "int feel(int,int)", "int forget()", "int never()",
        "int was(int,int)", "int ask(int)", "long chance(int,int,int)", "int years(int,int,int)",
        "int sheet(int,int,int)", "int lose(int)", "int put(int,int,int,int)", "int get(int,int,int)",
        "int copy(int,int,int,int,int)", "int write(int)", "int count(int)", "long digest()"};
    private static final String[] REFUSED = {
        "throw", "throws", "try", "catch", "finally", "synchronized", "assert", "import", "package",
        "native", "volatile", "transient", "protected", "goto", "Object", "Random", "Thread",
        "hashCode", "toString", "getClass", "MIN_VALUE", "MAX_VALUE", "equals"};
    private static int wrong = 0;

    private static void must(boolean holds, String what) {
        if (!holds) {
            wrong++;
            System.out.println("not so: " + what);
        }
    }

    public static void main(String[] args) throws Exception {
        face();
        source(Files.readString(Path.of("src/main/java/ButlerWeather.java")));
        System.out.println(wrong + " rules not kept");
        if (wrong != 0) {
            System.exit(1);
        }
    }

    private static String told(Method m) {
        List<String> types = new ArrayList<>();
        for (Class<?> t : m.getParameterTypes()) {
            types.add(t.getName());
        }
        return m.getReturnType().getName() + " " + m.getName() + "(" + String.join(",", types) + ")";
    }

    private static void face() {
        Class<?> face = ButlerWeather.class;
        must(Modifier.isPublic(face.getModifiers()) && Modifier.isFinal(face.getModifiers()), "public and final");
        Constructor<?>[] made = face.getDeclaredConstructors();
        must(made.length == 1 && Modifier.isPublic(made[0].getModifiers()) && made[0].getParameterCount() == 0,
                "one public constructor");
        Set<String> open = new TreeSet<>();
        Set<String> names = new TreeSet<>();
        for (Method m : face.getDeclaredMethods()) {
            if (!Modifier.isPrivate(m.getModifiers())) {
                open.add(told(m));
                names.add(m.getName());
                must(Modifier.isPublic(m.getModifiers()) && !Modifier.isStatic(m.getModifiers()), "public: " + m);
            }
        }
        must(open.equals(new TreeSet<>(Arrays.asList(FACE))), "the face: " + open);
        Set<String> constants = new TreeSet<>();
        for (Field f : face.getDeclaredFields()) {
            int mods = f.getModifiers();
            if (!Modifier.isPrivate(mods)) {
                constants.add(f.getName());
            }
            must(!Modifier.isStatic(mods) || Modifier.isFinal(mods), "static fields are final: " + f);
        }
        must(constants.equals(Set.of("NONE", "BAD", "NOT", "FULL")), "the constants: " + constants);
        inside(face, names);
    }

    private static void inside(Class<?> face, Set<String> names) {
        List<Class<?>> all = new ArrayList<>(Arrays.asList(face.getDeclaredClasses()));
        must(all.size() < 12, "at most some twelve classes");
        for (Class<?> c : all) {
            must(Modifier.isStatic(c.getModifiers()) && !Modifier.isPublic(c.getModifiers()), "static, not open: " + c);
            int fields = 0;
            for (Field f : c.getDeclaredFields()) {
                fields += Modifier.isStatic(f.getModifiers()) ? 0 : 1;
            }
            must(fields <= 20, "at most twenty fields: " + c);
        }
        all.add(face);
        for (Class<?> c : all) {
            for (Method m : c.getDeclaredMethods()) {
                must(m.getParameterCount() <= 7, "at most seven parameters: " + m);
                must(Modifier.isPublic(m.getModifiers()) && c == face || !names.contains(m.getName()),
                        "no name of a public method: " + m);
            }
        }
    }

    private static void source(String text) {
        String code = Pattern.compile("(?s)/\\*.*?\\*/").matcher(text).replaceAll("").replaceAll("//[^\n]*", "");
        for (String word : REFUSED) {
            must(!Pattern.compile("\\b" + word + "\\b").matcher(code).find(), "without the word " + word);
        }
        must(!code.contains("->") && !code.contains("::"), "without lambdas");
        must(!code.contains("Exact"), "without ..Exact");
        must(!code.contains("\""), "without texts");
        must(text.chars().allMatch(sign -> sign == '\n' || sign >= 32 && sign < 127), "plain signs alone");
        Matcher library = Pattern.compile("\\b(System|Math|Integer|Long|Arrays)\\.(\\w+)").matcher(code);
        Set<String> allowed = Set.of("System.arraycopy", "Math.min", "Math.max", "Integer.bitCount");
        while (library.find()) {
            must(allowed.contains(library.group()), "of the library: " + library.group());
        }
        shortMethods(code.split("\n"));
    }

    /** A method starts with a line that ends in ") {" at the indent of a member, and ends with "}" there. */
    private static void shortMethods(String[] lines) {
        Map<String, String> bodies = new TreeMap<>();
        for (int i = 0; i < lines.length; i++) {
            Matcher start = Pattern.compile("^( {4}| {8})\\w[^=]*?(\\w+)\\([^()]*\\) \\{$").matcher(lines[i]);
            if (!start.matches() || lines[i].trim().matches("(if|for|while|switch)\\b.*")) {
                continue;
            }
            int end = i;
            while (end < lines.length && !lines[end].equals(start.group(1) + "}")) {
                end++;
            }
            must(end - i <= 60, "a short method: " + lines[i].trim());
            bodies.merge(start.group(2), String.join("\n", Arrays.copyOfRange(lines, i + 1, end)), String::concat);
        }
        must(bodies.keySet().containsAll(Set.of("digest", "live", "within", "hindrance")), "methods are seen");
        for (String name : bodies.keySet()) {
            int deep = depth(name, bodies, 0);
            must(deep <= 8, deep + " calls deep: " + name);
        }
    }

    /** How many calls stand open at once, methods of one name taken together. */
    private static int depth(String name, Map<String, String> bodies, int above) {
        if (above > 20) {
            return above;
        }
        int deepest = 0;
        Matcher called = Pattern.compile("\\b(\\w+)\\(").matcher(bodies.get(name));
        while (called.find()) {
            if (bodies.containsKey(called.group(1))) {
                deepest = Math.max(deepest, depth(called.group(1), bodies, above + 1));
            }
        }
        return deepest + 1;
    }
}
