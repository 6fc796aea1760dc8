import java.io.IOException;
import java.lang.reflect.Constructor;
import java.lang.reflect.Field;
import java.lang.reflect.Method;
import java.lang.reflect.Modifier;
import java.nio.file.Files;
import java.nio.file.Path;
import java.util.ArrayList;
import java.util.Arrays;
import java.util.List;
import java.util.Map;
import java.util.Set;
import java.util.TreeMap;
import java.util.TreeSet;
import java.util.regex.Matcher;
import java.util.regex.Pattern;

/** The face of the document and the rules of LANGUAGE.md, as far as they can be read off. */
public final class LanguageTest {
    private static final Checks c = new Checks();
    private static final String FACE = "boolean clock(int) int part(int,int,int,int,int,int,int) int machine()"
        + " int turn(int,int,int,int) int anew(int,int) int push(int,int,int) boolean release(int) int state(int,int,int)"
        + " int judged(int,int,int) int tried(int,int,int,int,int,int,int) int change(int,int,int,int,int)"
        + " int cheapest(int,int,int,int,int,int) int goes(int,int,int) int floor(int,int,int,int,int,int,int)"
        + " int feed(int,int,int,int,int) int end(int) int order(int,int) boolean takes(int,int,boolean) int bound(int,int)"
        + " int stamp(int,int,int,int) int see(int,int,int,boolean) int fewest() int sure(int) int paper(int,int,int)"
        + " boolean read(int,int,int) int knew(int,int) int warned(int,int) int wears(int,int) int fly(int,int)"
        + " int odds(int,int) int first(int,int,int) int mark(int) int back(int) int count(int)";

    public static void main(String[] args) throws IOException {
        face();
        classesInside();
        String source = Files.readString(Path.of("src/main/java/NearlyShut.java"));
        words(source);
        Map<String, String> bodies = bodies(source);
        c.due("methods were found: " + bodies.size(), bodies.size() > 100, true);
        deepest(bodies);
        objectsMade(bodies);
        c.end("LanguageTest");
    }

    private static void face() {
        Set<String> publics = new TreeSet<>(), names = new TreeSet<>();
        for (Method m : NearlyShut.class.getDeclaredMethods()) {
            if (Modifier.isPublic(m.getModifiers())) {
                List<String> types = new ArrayList<>();
                for (Class<?> t : m.getParameterTypes()) types.add(t.getName());
                publics.add(m.getReturnType().getName() + " " + m.getName() + "(" + String.join(",", types) + ")");
                names.add(m.getName());
            } else {
                c.due("private: " + m, Modifier.isPrivate(m.getModifiers()), true);
            }
        }
        Set<String> due = new TreeSet<>();
        Matcher each = Pattern.compile("\\S+ \\w+\\([^)]*\\)").matcher(FACE);
        while (each.find()) due.add(each.group());
        c.due("the document has 34 methods", due.size(), 34);
        if (!publics.equals(due)) c.due("the face " + publics + " instead of " + due, false, true);
        for (Field f : NearlyShut.class.getDeclaredFields()) {
            c.due("field " + f, Modifier.isPrivate(f.getModifiers()) || f.getName().equals("NONE"), true);
        }
        for (Constructor<?> k : NearlyShut.class.getDeclaredConstructors()) {
            c.due("constructor " + k, Modifier.isPublic(k.getModifiers()) && k.getParameterCount() == 0, true);
        }
        c.due("public and final", NearlyShut.class.getModifiers(), Modifier.PUBLIC | Modifier.FINAL);
        for (Class<?> inside : NearlyShut.class.getDeclaredClasses()) {
            for (Method m : inside.getDeclaredMethods()) {
                c.due("no method inside is called as one of the face: " + m, names.contains(m.getName()), false);
            }
        }
    }

    private static void classesInside() {
        List<Class<?>> all = new ArrayList<>(Arrays.asList(NearlyShut.class.getDeclaredClasses()));
        for (Class<?> k : all) c.due("static: " + k, Modifier.isStatic(k.getModifiers()), true);
        all.add(NearlyShut.class);
        c.due("twelve classes at most, there are " + all.size(), all.size() <= 12, true);
        for (Class<?> k : all) {
            int fields = 0;
            for (Field f : k.getDeclaredFields()) {
                int m = f.getModifiers();
                if (Modifier.isStatic(m)) c.due("final: " + f, Modifier.isFinal(m), true);
                else fields++;
            }
            c.due("twenty fields at most in " + k, fields <= 20, true);
            for (Method m : k.getDeclaredMethods()) c.due("seven parameters at most: " + m, m.getParameterCount() <= 7, true);
        }
    }

    private static void words(String source) {
        String code = source.replaceAll("(?s)/\\*.*?\\*/", " ").replaceAll("//[^\n]*", " ")
            .replaceAll("\"[^\"\n]*\"", "TEXT").replaceAll("'[^'\n]+'", "SIGN");
        for (String word : new String[] {"throw", "throws", "try", "catch", "finally", "synchronized", "assert", "package",
            "equals", "hashCode", "toString", "HashMap", "Object", "var", "native", "volatile", "Thread", "Random"}) {
            c.due("the word " + word, Pattern.compile("\\b" + word + "\\b").matcher(code).find(), false);
        }
        for (String sign : new String[] {"->", "::", "Exact(", "TEXT +", "+ TEXT", "@", "static {"}) {
            c.due("the sign " + sign, code.contains(sign), false);
        }
        Matcher imports = Pattern.compile("import ([\\w.]+);").matcher(code);
        while (imports.find()) c.due("import " + imports.group(1), imports.group(1).equals("java.util.Arrays"), true);
        Matcher system = Pattern.compile("System\\.(\\w+)").matcher(code);
        while (system.find()) c.due("System." + system.group(1), system.group(1).equals("arraycopy"), true);
        Matcher arrays = Pattern.compile("Arrays\\.(\\w+)").matcher(code);
        while (arrays.find()) c.due("Arrays." + arrays.group(1), arrays.group(1).matches("fill|copyOf|copyOfRange|Arrays"), true);
        c.due("signs 1 to 127 alone", source.chars().allMatch(s -> s > 0 && s < 128), true);
    }

    /** Of each method, by its name, all lines of its body; those of one name in several classes are taken together. */
    private static Map<String, String> bodies(String source) {
        Map<String, String> bodies = new TreeMap<>();
        String[] lines = source.replaceAll("//[^\n]*", "").split("\n");
        Pattern head = Pattern.compile("^( {4}| {8})(?:[\\w\\[\\]]+ )*(\\w+)\\(.*\\) \\{$");
        for (int i = 0; i < lines.length; i++) {
            Matcher m = head.matcher(lines[i]);
            if (!m.matches()) continue;
            int from = i;
            StringBuilder body = new StringBuilder();
            while (!lines[++i].equals(m.group(1) + "}")) body.append(lines[i]).append('\n');
            c.due("sixty lines at most from line " + (from + 1), i - from < 60, true);
            bodies.merge(m.group(2), body.toString(), String::concat);
        }
        return bodies;
    }

    /** Rule 11: calls that are no recursion go eight deep at most, those of the library counted too. */
    private static void deepest(Map<String, String> bodies) {
        Map<String, Set<String>> calls = new TreeMap<>();
        for (String name : bodies.keySet()) {
            Set<String> called = new TreeSet<>();
            Matcher m = Pattern.compile("(\\w+)\\(").matcher(bodies.get(name));
            while (m.find()) {
                if (!m.group(1).matches("if|for|while|switch|return")) called.add(m.group(1));
            }
            calls.put(name, called);
        }
        for (String name : bodies.keySet()) {
            List<String> longest = longest(name, calls, new ArrayList<>());
            c.due("eight deep at most: " + longest, longest.size() <= 8, true);
        }
    }

    /** The longest chain of calls from there on in which no method stands twice. */
    private static List<String> longest(String name, Map<String, Set<String>> calls, List<String> open) {
        open.add(name);
        List<String> best = new ArrayList<>(open);
        for (String next : calls.getOrDefault(name, Set.of())) {
            if (open.contains(next)) continue;
            List<String> chain = longest(next, calls, open);
            if (chain.size() > best.size()) best = chain;
        }
        open.remove(open.size() - 1);
        return best;
    }

    /** Rule 12: what a run makes stays small: calls make an ORDER that is kept, and a MARK's rows, once for each. */
    private static void objectsMade(Map<String, String> bodies) {
        Set<String> makers = new TreeSet<>();
        for (String name : bodies.keySet()) {
            if (Pattern.compile("\\bnew\\b|\\bclone\\b|copyOf").matcher(bodies.get(name)).find()) makers.add(name);
        }
        if (!makers.equals(Set.of("NearlyShut", "handOver", "mark"))) c.due("objects are made by " + makers, false, true);
    }
}
