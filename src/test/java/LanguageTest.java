import java.lang.reflect.Array;
import java.lang.reflect.Executable;
import java.lang.reflect.Field;
import java.lang.reflect.Modifier;
import java.nio.file.Files;
import java.nio.file.Path;
import java.util.ArrayList;
import java.util.List;
import java.util.Set;
import java.util.TreeSet;
import java.util.regex.Matcher;
import java.util.regex.Pattern;

/** The rules of LANGUAGE.md that can be read off the class or its source; FaceTest has rule 1, the face. */
public final class LanguageTest extends Checks {
    /** Of one AirSteps: 600,000 objects with 7.3 million fields are the room of a run that makes 20,000 of them. */
    private static final int MOST_OBJECTS = 30;
    private static final int MOST_FIELDS = 360;

    private static String code;

    public static void main(String[] args) throws Exception {
        String source = Files.readString(Path.of("src/main/java/AirSteps.java"));
        code = source.replaceAll("(?s)/\\*.*?\\*/", " ").replaceAll("//[^\n]*", "");
        for (Class<?> kind : classes()) {
            constants(kind);
            fields(kind);
            parameters(kind);
        }
        classesInside();
        theLibrary();
        wordsLeftOut();
        shortMethods();
        smallObjects();
        end("LanguageTest");
    }

    private static List<Class<?>> classes() {
        List<Class<?>> found = new ArrayList<>(List.of(AirSteps.class));
        for (int i = 0; i < found.size(); i++) found.addAll(List.of(found.get(i).getDeclaredClasses()));
        return found;
    }

    private static void classesInside() {
        sentence("2: no local or anonymous class; 11: the file has at most some twelve classes");
        due("an anonymous class", Pattern.compile("new \\w+\\([^)]*\\)\\s*\\{").matcher(code).find(), false);
        due("a local class", Pattern.compile("(?m)^ {8,}(final |abstract )*class ").matcher(code).find(), false);
        due("twelve classes at most: " + classes().size(), classes().size() <= 12, true);
    }

    private static void constants(Class<?> kind) {
        sentence("5: Static fields are final: constants of int, long, boolean, char or String, .., and arrays");
        Set<Class<?>> fine = Set.of(int.class, long.class, boolean.class, char.class, String.class,
            int[].class, long[].class, char[].class, byte[].class);
        for (Field field : kind.getDeclaredFields()) {
            if (!Modifier.isStatic(field.getModifiers())) continue;
            due("final: " + field, Modifier.isFinal(field.getModifiers()), true);
            due("of such a type: " + field, fine.contains(field.getType()), true);
        }
        due("a static initialiser block", Pattern.compile("\\bstatic\\s*\\{").matcher(code).find(), false);
    }

    private static void fields(Class<?> kind) {
        sentence("11: a class some twenty fields beside its constants");
        int fields = 0;
        for (Field field : kind.getDeclaredFields()) fields += Modifier.isStatic(field.getModifiers()) ? 0 : 1;
        due(kind + ", twenty at most: " + fields, fields <= 20, true);
    }

    private static void parameters(Class<?> kind) {
        sentence("11: A method takes at most seven parameters");
        List<Executable> all = new ArrayList<>(List.of(kind.getDeclaredMethods()));
        all.addAll(List.of(kind.getDeclaredConstructors()));
        for (Executable one : all) due("seven at most: " + one, one.getParameterCount() <= 7, true);
    }

    private static void theLibrary() {
        sentence("4: The library: only what stands here");
        Matcher imports = Pattern.compile("(?m)^import (.*);").matcher(code);
        while (imports.find()) {
            due("import " + imports.group(1), imports.group(1).matches("java\\.util\\.(ArrayList|List|Arrays|Iterator)"), true);
        }
        Matcher call = Pattern.compile("\\b(Math|Integer|Long|System|Arrays|Character|Thread|Runtime)\\.(\\w+)").matcher(code);
        while (call.find()) {
            due(call.group(), call.group().matches("(Math|Integer|Long)\\.(?!\\w*Exact|random)\\w+"
                + "|System\\.arraycopy|Arrays\\.(copyOf|copyOfRange|fill)"), true);
        }
    }

    private static void wordsLeftOut() {
        sentence("no package line; 2: no lambda, no method reference; 6: No throw, try, catch, synchronized, assert");
        Set<String> words = new TreeSet<>(List.of(code.split("[^A-Za-z0-9_]+")));
        for (String word : List.of("throw", "throws", "try", "catch", "synchronized", "assert", "package", "hashCode")) {
            due("the source has the word " + word, words.contains(word), false);
        }
        due("a lambda or a method reference", code.contains("->") || code.contains("::"), false);
    }

    private static void shortMethods() {
        sentence("11: Methods stay short (some sixty lines)");
        Matcher method = Pattern.compile("(?m)^( {4}| {8})(?! )[^\n]*\\([^\n]*\\) \\{\n((?s).*?)\n\\1\\}$").matcher(code);
        int methods = 0;
        while (method.find()) {
            methods++;
            int lines = method.group(2).split("\n").length;
            due("sixty at most: " + lines, lines <= 60, true);
        }
        due("methods are found in the source", methods > 19, true);
    }

    private static void smallObjects() throws Exception {
        sentence("12: What a run makes is counted ..: keep it small");
        int[] count = new int[2];
        measure(text(SIXTEEN), count);
        due("objects and arrays, " + MOST_OBJECTS + " at most: " + count[0], count[0] <= MOST_OBJECTS, true);
        due("fields and elements, " + MOST_FIELDS + " at most: " + count[1], count[1] <= MOST_FIELDS, true);
    }

    /** Counts an object and all that it holds; what is held twice is counted twice. */
    private static void measure(Object held, int[] count) throws Exception {
        count[0]++;
        if (held.getClass().isArray()) {
            count[1] += Array.getLength(held);
            return;
        }
        for (Field field : held.getClass().getDeclaredFields()) {
            if (Modifier.isStatic(field.getModifiers())) continue;
            count[1]++;
            field.setAccessible(true);
            if (!field.getType().isPrimitive()) measure(field.get(held), count);
        }
    }
}
