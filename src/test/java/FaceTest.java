import java.io.IOException;
import java.lang.reflect.Constructor;
import java.lang.reflect.Field;
import java.lang.reflect.Method;
import java.lang.reflect.Modifier;
import java.nio.file.Files;
import java.nio.file.Path;
import java.util.ArrayList;
import java.util.Arrays;
import java.util.Collections;
import java.util.HashMap;
import java.util.List;
import java.util.Map;
import java.util.Set;
import java.util.TreeSet;
import java.util.regex.Matcher;
import java.util.regex.Pattern;

/** The class has the document's face and no other, and its text keeps to rules of LANGUAGE.md. */
public final class FaceTest {
    private static final List<String> FACE = List.of(
        "name()", "literal(int)", "clause()", "row(int)", "weight(int,int,int)", "drop(int)",
        "cost(int,int)", "clear()", "assume(int)", "forget()", "conflict()", "known(int)",
        "lemma()", "lemmas()", "search()", "value(int)", "told(int)", "learned(int,int)",
        "count()", "fixed(int)", "best()", "bestValue(int)", "core(int)");
    private static final List<String> BARRED = List.of(
        "\\b(throw|throws|try|catch|synchronized|assert|protected|volatile|native)\\b",
        "->", "::", "\\b\\w+Exact\\b", "\\b(hashCode|equals|toString)\\b",
        "\\b(System\\.(?!arraycopy)|Random|Thread|Object|var)\\b", "@\\w+", "\"");

    private final Check check = new Check();

    public static void main(String[] args) throws IOException {
        FaceTest test = new FaceTest();
        test.lookAtFace();
        test.lookAtInnerClasses();
        test.lookAtText(Files.readString(Path.of("src/main/java/LearnedReasons.java")));
        test.check.end();
    }

    private void lookAtFace() {
        Class<LearnedReasons> type = LearnedReasons.class;
        check.that("public and final", type.getModifiers() == (Modifier.PUBLIC | Modifier.FINAL));
        List<String> open = new ArrayList<>();
        for (Method method : type.getDeclaredMethods()) {
            if (Modifier.isPrivate(method.getModifiers())) continue;
            open.add(signature(method));
            check.that(method + " is public and no more", method.getModifiers() == Modifier.PUBLIC);
            check.that(method + " answers an int", method.getReturnType() == int.class);
        }
        List<String> face = new ArrayList<>(FACE);
        Collections.sort(open);
        Collections.sort(face);
        check.that("the face is " + open, open.equals(face));
        for (Field field : type.getDeclaredFields()) {
            check.that(field + " is private", Modifier.isPrivate(field.getModifiers()));
        }
        Constructor<?>[] constructors = type.getDeclaredConstructors();
        check.due("constructors", constructors.length, 1);
        check.due("its parameters", constructors[0].getParameterCount(), 0);
        check.that("it is public", Modifier.isPublic(constructors[0].getModifiers()));
        lookAtNames(type);
    }

    private static String signature(Method method) {
        List<String> types = new ArrayList<>();
        for (Class<?> type : method.getParameterTypes()) types.add(type.getName());
        return method.getName() + "(" + String.join(",", types) + ")";
    }

    private void lookAtInnerClasses() {
        Class<?>[] inner = LearnedReasons.class.getDeclaredClasses();
        check.that("twelve classes at most", inner.length < 12);
        for (Class<?> type : inner) {
            check.that(type + " is static", Modifier.isStatic(type.getModifiers()));
            check.that(type + " is not open", !Modifier.isPublic(type.getModifiers()));
            check.due(type + " has classes", type.getDeclaredClasses().length, 0);
            lookAtNames(type);
        }
    }

    private void lookAtNames(Class<?> type) {
        int fields = 0;
        for (Field field : type.getDeclaredFields()) {
            boolean isStatic = Modifier.isStatic(field.getModifiers());
            fields += isStatic ? 0 : 1;
            check.that(field + ": static is final", !isStatic || Modifier.isFinal(field.getModifiers()));
        }
        check.that(type + " has twenty fields at most", fields <= 20);
        for (Method method : type.getDeclaredMethods()) {
            check.that(method + " has seven parameters at most", method.getParameterCount() <= 7);
            boolean hidden = type != LearnedReasons.class || Modifier.isPrivate(method.getModifiers());
            for (String face : FACE) {
                boolean same = face.startsWith(method.getName() + "(");
                check.that(method + " bears another name", !hidden || !same);
            }
        }
    }

    private void lookAtText(String text) {
        String code = text.replaceAll("(?s)/\\*.*?\\*/", "").replaceAll("//[^\n]*", "");
        for (String barred : BARRED) {
            Matcher found = Pattern.compile(barred).matcher(code);
            check.that("without " + barred, !found.find());
        }
        List<String> imports = new ArrayList<>();
        for (String line : code.split("\n")) if (line.startsWith("import")) imports.add(line);
        check.that("imports " + imports, imports.equals(Arrays.asList("import java.util.Arrays;")));
        check.that("no package", !code.contains("package "));
        lookAtLibrary(code);
        lookAtMethods(code);
        for (char c : text.toCharArray()) if (c > 126) check.that("plain letters, not " + c, false);
    }

    /** What README.md says of the library, all of which rule 4 lists. */
    private void lookAtLibrary(String code) {
        Set<String> used = new TreeSet<>();
        Matcher found = Pattern.compile("\\b[A-Z]\\w*\\.[a-z]\\w*(?=\\()").matcher(code);
        while (found.find()) used.add(found.group());
        List<String> listed = List.of("Arrays.fill", "Integer.bitCount", "Long.bitCount");
        check.that("of the library, not " + used, List.copyOf(used).equals(listed));
    }

    /** Methods of one name in several classes count as one: the depth is at least the true one. */
    private void lookAtMethods(String code) {
        Map<String, Set<String>> calls = new HashMap<>();
        String heads = "(?m)^( +)\\w[\\w\\[\\] ]+ (\\w+)\\([^()]*\\) \\{$";
        Matcher head = Pattern.compile(heads).matcher(code);
        while (head.find()) {
            int end = code.indexOf("\n" + head.group(1) + "}", head.end());
            String body = code.substring(head.end(), end);
            check.that(head.group(2) + " is short", body.split("\n").length <= 60);
            Matcher call = Pattern.compile("\\b([a-z]\\w*)\\(").matcher(body);
            Set<String> called = calls.computeIfAbsent(head.group(2), none -> new TreeSet<>());
            while (call.find()) called.add(call.group(1));
        }
        for (String face : FACE) {
            String name = face.substring(0, face.indexOf('('));
            check.that(name + " is found", calls.containsKey(name));
            List<String> deepest = deepest(name, calls, new ArrayList<>());
            check.that("at most eight deep, not " + deepest, deepest.size() <= 8);
        }
    }

    private static List<String> deepest(
            String name, Map<String, Set<String>> calls, List<String> above) {
        List<String> path = new ArrayList<>(above);
        path.add(name);
        List<String> most = path;
        for (String next : calls.getOrDefault(name, Set.of())) {
            if (path.contains(next)) continue;
            List<String> way = deepest(next, calls, path);
            if (way.size() > most.size()) most = way;
        }
        return most;
    }
}
