import java.io.IOException;
import java.lang.reflect.Constructor;
import java.lang.reflect.Field;
import java.lang.reflect.Method;
import java.lang.reflect.Modifier;
import java.nio.file.Files;
import java.nio.file.Path;
import java.util.ArrayList;
import java.util.Arrays;
import java.util.List;
import java.util.Set;
import java.util.TreeSet;
import java.util.regex.Matcher;
import java.util.regex.Pattern;

/** The face of the document and the rules of LANGUAGE.md, as far as they can be read off. */
public final class LanguageTest {
    private static final Checks c = new Checks();
    private static final String FACE = "boolean clock(int) int part(int,int,int,int,int,int,int) int machine()"
        + " int turn(int,int,int,int) int anew(int,int) int push(int,int,int) boolean release(int) int state(int,int,int)"
        + " int judged(int,int,int) int tried(int,int,int,int,int,int,int) int change(int,int,int,int,int)"
        + " int cheapest(int,int,int,int,int,int) int goes(int,int,int) int floor(int,int,int,int,int,int,int)"
        + " int feed(int,int,int,int,int) int end(int) int order(int,int) boolean takes(int,int,boolean) int bound(int,int)"
        + " int stamp(int,int,int,int) int see(int,int,int,boolean) int fewest() int sure(int) int paper(int,int,int)"
        + " boolean read(int,int,int) int knew(int,int) int warned(int,int) int wears(int,int) int fly(int,int)"
        + " int odds(int,int) int first(int,int,int) int mark(int) int back(int) int count(int)";

    public static void main(String[] args) throws IOException {
        face();
        classesInside();
        String source = Files.readString(Path.of("src/main/java/NearlyShut.java"));
        words(source);
        lengths(source);
        c.end("LanguageTest");
    }

    private static void face() {
        Set<String> publics = new TreeSet<>(), names = new TreeSet<>();
        for (Method m : NearlyShut.class.getDeclaredMethods()) {
            if (Modifier.isPublic(m.getModifiers())) {
                List<String> types = new ArrayList<>();
                for (Class<?> t : m.getParameterTypes()) types.add(t.getName());
                publics.add(m.getReturnType().getName() + " " + m.getName() + "(" + String.join(",", types) + ")");
                names.add(m.getName());
            } else {
                c.due("private: " + m, Modifier.isPrivate(m.getModifiers()), true);
            }
        }
        Set<String> due = new TreeSet<>();
        Matcher each = Pattern.compile("\\S+ \\w+\\([^)]*\\)").matcher(FACE);
        while (each.find()) due.add(each.group());
        c.due("the document has 34 methods", due.size(), 34);
        if (!publics.equals(due)) c.due("the face " + publics + " instead of " + due, false, true);
        for (Field f : NearlyShut.class.getDeclaredFields()) {
            c.due("field " + f, Modifier.isPrivate(f.getModifiers()) || f.getName().equals("NONE"), true);
        }
        for (Constructor<?> k : NearlyShut.class.getDeclaredConstructors()) {
            c.due("constructor " + k, Modifier.isPublic(k.getModifiers()) && k.getParameterCount() == 0, true);
        }
        c.due("public and final", NearlyShut.class.getModifiers(), Modifier.PUBLIC | Modifier.FINAL);
        for (Class<?> inside : NearlyShut.class.getDeclaredClasses()) {
            for (Method m : inside.getDeclaredMethods()) {
                c.due("no method inside is called as one of the face: " + m, names.contains(m.getName()), false);
            }
        }
    }

    private static void classesInside() {
        List<Class<?>> all = new ArrayList<>(Arrays.asList(NearlyShut.class.getDeclaredClasses()));
        for (Class<?> k : all) c.due("static: " + k, Modifier.isStatic(k.getModifiers()), true);
        all.add(NearlyShut.class);
        c.due("twelve classes at most, there are " + all.size(), all.size() <= 12, true);
        for (Class<?> k : all) {
            int fields = 0;
            for (Field f : k.getDeclaredFields()) {
                int m = f.getModifiers();
                if (Modifier.isStatic(m)) c.due("final: " + f, Modifier.isFinal(m), true);
                else fields++;
            }
            c.due("twenty fields at most in " + k, fields <= 20, true);
            for (Method m : k.getDeclaredMethods()) c.due("seven parameters at most: " + m, m.getParameterCount() <= 7, true);
        }
    }

    private static void words(String source) {
        String code = source.replaceAll("(?s)/\\*.*?\\*/", " ").replaceAll("//[^\n]*", " ")
            .replaceAll("\"[^\"\n]*\"", "TEXT").replaceAll("'[^'\n]+'", "SIGN");
        for (String word : new String[] {"throw", "throws", "try", "catch", "finally", "synchronized", "assert", "package",
            "equals", "hashCode", "toString", "HashMap", "Object", "var", "native", "volatile", "Thread", "Random"}) {
            c.due("the word " + word, Pattern.compile("\\b" + word + "\\b").matcher(code).find(), false);
        }
        for (String sign : new String[] {"->", "::", "Exact(", "TEXT +", "+ TEXT", "@", "static {"}) {
            c.due("the sign " + sign, code.contains(sign), false);
        }
        Matcher imports = Pattern.compile("import ([\\w.]+);").matcher(code);
        while (imports.find()) c.due("import " + imports.group(1), imports.group(1).equals("java.util.Arrays"), true);
        Matcher system = Pattern.compile("System\\.(\\w+)").matcher(code);
        while (system.find()) c.due("System." + system.group(1), system.group(1).equals("arraycopy"), true);
        Matcher arrays = Pattern.compile("Arrays\\.(\\w+)").matcher(code);
        while (arrays.find()) c.due("Arrays." + arrays.group(1), arrays.group(1).matches("fill|copyOf|copyOfRange|Arrays"), true);
        c.due("signs 1 to 127 alone", source.chars().allMatch(s -> s > 0 && s < 128), true);
    }

    private static void lengths(String source) {
        String[] lines = source.split("\n");
        int from = -1;
        String indent = "";
        Pattern head = Pattern.compile("^( {4}| {8})[\\w\\[\\]]+[\\w\\[\\] ]*\\(.*\\) \\{$");
        for (int i = 0; i < lines.length; i++) {
            Matcher m = head.matcher(lines[i]);
            if (from < 0 && m.matches()) {
                from = i;
                indent = m.group(1);
            } else if (from >= 0 && lines[i].equals(indent + "}")) {
                c.due("sixty lines at most from line " + (from + 1), i - from < 60, true);
                from = -1;
            }
        }
    }
}
