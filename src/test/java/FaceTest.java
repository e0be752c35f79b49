import java.lang.reflect.Array;
import java.lang.reflect.Constructor;
import java.lang.reflect.Field;
import java.lang.reflect.Method;
import java.lang.reflect.Modifier;
import java.nio.file.Files;
import java.nio.file.Path;
import java.util.Arrays;
import java.util.IdentityHashMap;
import java.util.TreeSet;
import java.util.regex.Matcher;
import java.util.regex.Pattern;

/** The document's public face and those rules of LANGUAGE.md that can be seen from outside or by words. */
public final class FaceTest {
    private static final Check CHECK = new Check("face");

    private static final String[] FACE = {"int feed 5", "int end 1", "int barracks 0", "int law 0", "int tick 2",
        "int company 2", "int tires 2", "int drum 0", "int feast 1", "int ahead 3", "int struck 4", "int turned 4",
        "int mutiny 4", "int crest 5", "int dream 3", "int told 4", "int harm 3", "int log 1", "int both 2", "int run 1",
        "int why 2", "int fair 3", "int bestLaw 1", "int swap 3", "int strike 3", "int just 2", "int seed 1",
        "int count 1", "int image 1", "int back 1", "boolean lie 2"};

    private static void hold(String what, boolean holds) {
        CHECK.due(what, true, holds);
    }

    private static boolean allInts(Method method) {
        for (int i = 0; i < method.getParameterCount(); i++) {
            boolean isLast = method.getName().equals("lie") && i == 1;
            if (method.getParameterTypes()[i] != (isLast ? boolean.class : int.class)) {
                return false;
            }
        }
        return true;
    }

    private static void face() {
        Class<?> face = SleepWaves.class;
        hold("public and final", face.getModifiers() == (Modifier.PUBLIC | Modifier.FINAL));
        TreeSet<String> due = new TreeSet<>(Arrays.asList(FACE));
        TreeSet<String> got = new TreeSet<>();
        TreeSet<String> names = new TreeSet<>();
        for (Method method : face.getDeclaredMethods()) {
            if (Modifier.isPrivate(method.getModifiers())) {
                continue;
            }
            hold(method + " is public alone", method.getModifiers() == Modifier.PUBLIC);
            hold(method + " takes numbers", allInts(method));
            got.add(method.getReturnType() + " " + method.getName() + " " + method.getParameterCount());
            names.add(method.getName());
        }
        hold("the methods: " + got, got.equals(due));
        for (Constructor<?> constructor : face.getDeclaredConstructors()) {
            hold("the constructor", constructor.getModifiers() == Modifier.PUBLIC && constructor.getParameterCount() == 0);
        }
        for (Field field : face.getDeclaredFields()) {
            hold(field + " is private or NONE", Modifier.isPrivate(field.getModifiers()) || field.getName().equals("NONE"));
        }
        privateNames(face, names);
        hold("twelve classes at most", face.getDeclaredClasses().length < 12);
        for (Class<?> inner : face.getDeclaredClasses()) {
            hold(inner + " is static", Modifier.isStatic(inner.getModifiers()));
            hold(inner + " is not public", !Modifier.isPublic(inner.getModifiers()));
            privateNames(inner, names);
        }
    }

    private static void privateNames(Class<?> of, TreeSet<String> publicNames) {
        int fields = 0;
        for (Field field : of.getDeclaredFields()) {
            boolean isStatic = Modifier.isStatic(field.getModifiers());
            hold(field + " is no static state", !isStatic || Modifier.isFinal(field.getModifiers()));
            fields += isStatic ? 0 : 1;
        }
        hold(of + " has twenty fields at most", fields <= 20);
        for (Method method : of.getDeclaredMethods()) {
            hold(method + " has seven parameters at most", method.getParameterCount() <= 7);
            hold(method + " has a name of its own",
                of == SleepWaves.class && Modifier.isPublic(method.getModifiers()) || !publicNames.contains(method.getName()));
        }
    }

    private static void words() throws java.io.IOException {
        String source = Files.readString(Path.of("src/main/java/SleepWaves.java"));
        String code = source.replaceAll("(?s)/\\*.*?\\*/", "").replaceAll("//[^\n]*", "")
            .replaceAll("\"[^\"\n]*\"", "\"\"").replaceAll("'\\\\?.'", "' '");
        String[] banned = {"throw", "throws", "try", "catch", "finally", "synchronized", "assert", "import", "package",
            "while *\\( *true *\\)", "->", "::", "Integer *\\.", "Object", "float", "double", "yield", "var", "native",
            "volatile", "transient", "abstract", "interface", "hashCode", "toString", "extends", "implements",
            "static *\\{", "Exact", "@"};
        for (String word : banned) {
            Matcher matcher = Pattern.compile(word.matches("[A-Za-z]+") ? "\\b" + word + "\\b" : word).matcher(code);
            hold("no '" + word + "'", !matcher.find());
        }
        Matcher library = Pattern.compile("\\b(System|Math|Arrays|String|Long|Integer)\\.(\\w+)").matcher(code);
        while (library.find()) {
            hold("in the library's list: " + library.group(),
                library.group().matches("System\\.arraycopy|Math\\.(min|max)"));
        }
        hold("signs 1 to 127", source.chars().allMatch(c -> c > 0 && c < 128));
        methodLengths(code);
        madeInConstructorsAlone(code);
    }

    private static boolean isHead(String line) {
        return line.matches(" {4}( {4})?(?!(for|if|while|switch) )[A-Za-z].*\\) \\{");
    }

    private static void methodLengths(String code) {
        int begin = 0;
        String[] lines = code.split("\n");
        for (int i = 0; i < lines.length; i++) {
            if (isHead(lines[i])) {
                begin = i;
            }
            if (lines[i].matches(" {4}( {4})?\\}")) {
                boolean isClass = lines[i].length() == 5 && i > 0 && lines[i - 1].equals("        }");
                hold("a short method at line " + i, isClass || i - begin < 60);
            }
        }
    }

    /** Rule 12 and the one room of a run: what a call makes would be counted for each call. */
    private static void madeInConstructorsAlone(String code) {
        boolean inConstructor = false;
        for (String line : code.split("\n")) {
            if (isHead(line)) {
                inConstructor = line.matches(" +(public |private )?[A-Z]\\w+\\(.*\\) \\{");
            }
            boolean isField = line.matches(" {4}( {4})?(private )?(static )?final \\S+ \\w+ = new .*;");
            if (line.matches(".*\\bnew\\b.*")) {
                hold("made once for all calls: " + line.trim(), inConstructor || isField);
            }
        }
    }

    /** What hangs on an object: how many objects and arrays, and how many fields and elements they have. */
    private static void weigh(Object one, IdentityHashMap<Object, Boolean> seen, int[] sums) throws IllegalAccessException {
        if (one == null || seen.put(one, true) != null) {
            return;
        }
        sums[0]++;
        if (one.getClass().isArray()) {
            sums[1] += Array.getLength(one);
            for (int i = 0; i < Array.getLength(one) && one instanceof Object[]; i++) {
                weigh(Array.get(one, i), seen, sums);
            }
            return;
        }
        for (Field field : one.getClass().getDeclaredFields()) {
            if (Modifier.isStatic(field.getModifiers())) {
                continue;
            }
            sums[1]++;
            field.setAccessible(true);
            if (!field.getType().isPrimitive()) {
                weigh(field.get(one), seen, sums);
            }
        }
    }

    private static void room() throws IllegalAccessException {
        SleepWaves waves = Check.told("company 9 0 0 9;company 9 0 1 9;bell 3 1;watch 9", "sleep tired>3;wake tired=0");
        int[] before = new int[2];
        weigh(waves, new IdentityHashMap<>(), before);
        hold("objects and fields: " + Arrays.toString(before), before[0] <= 600 && before[1] <= 14000);
        waves.tick(0, 96);
        waves.image(0);
        waves.turned(0, 3, 96, 0);
        waves.swap(0, 192, 0);
        waves.crest(0, 0, 48, 96, 0);
        waves.back(0);
        int[] behind = new int[2];
        weigh(waves, new IdentityHashMap<>(), behind);
        hold("as many as before: " + Arrays.toString(behind), Arrays.equals(before, behind));
    }

    public static void main(String[] args) throws java.io.IOException, IllegalAccessException {
        CHECK.sentence("Promise 1: A new object", "The constants: `NONE = -1`: None.");
        CHECK.due("NONE", -1, SleepWaves.NONE);
        CHECK.sentence("Promise 1: A new object", "public final class SleepWaves { public static final int NONE = -1;");
        face();
        words();
        room();
        CHECK.end();
    }
}
