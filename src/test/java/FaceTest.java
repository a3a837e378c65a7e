import java.lang.reflect.Constructor;
import java.lang.reflect.Field;
import java.lang.reflect.Method;
import java.lang.reflect.Modifier;
import java.nio.file.Files;
import java.nio.file.Path;
import java.util.Arrays;
import java.util.Set;
import java.util.TreeSet;
import java.util.regex.Matcher;
import java.util.regex.Pattern;

/** The public face of the document, and those rules of LANGUAGE.md that can be seen from the outside or by words. */
public final class FaceTest {
    private static final Check CHECK = new Check();
    private static final String[] CALLS = {
        "int books(int, int, int, int)", "int ofLeft(int, int)", "int ofRight(int, int)", "int letters(int, int, int)",
        "int price(int, int)", "int move(int, int, int)", "int best(int)", "int ofPair(int, int)",
        "int cost(int, int, int)", "int day(int, int, int, int, int)", "int by(int)", "int enough()",
        "int reading(int, int)", "int back(int)", "int kinds(int)", "int letterings(int)", "long odds(int, int)",
        "int sheet(int, int, int)", "int lose(int)", "int put(int, int, int)", "long cell(int, int, int)",
        "int copy(int, int, int, int, int)", "int tell(int)", "int read(int)", "int as(int, int)", "int trace()",
        "int fault()", "int many(int)"};
    private static final String[] CONSTANTS = {"UNKNOWN", "OUTSIDE", "STATE", "FULL", "NONE", "LOST"};
    /** Rules 2, 4 and 6; looked for in the source without its comments. */
    private static final String[] RULED_OUT = {"throw", "throws", "try", "catch", "finally", "synchronized", "assert",
        "var", "Exact", "random", "currentTimeMillis", "nanoTime", "Thread", "protected", "native", "volatile"};

    public static void main(String[] args) throws Exception {
        face();
        inside();
        source();
        onlyConstructorsMakeObjects();
        methodsAreShort();
        CHECK.end();
    }

    private static void same(String what, Set<String> got, Set<String> want) {
        CHECK.due(what + " " + got + ", due " + want, got.equals(want) ? 1 : 0, 1);
    }

    private static void face() throws Exception {
        int modifiers = BookPairs.class.getModifiers();
        CHECK.due("public and final", Modifier.isPublic(modifiers) && Modifier.isFinal(modifiers) ? 1 : 0, 1);
        Set<String> methods = new TreeSet<>();
        Set<String> hidden = new TreeSet<>();
        for (Method method : BookPairs.class.getDeclaredMethods()) {
            if (Modifier.isPrivate(method.getModifiers()) || method.isSynthetic()) {
                hidden.add(method.getName());
            } else {
                String numbers = Arrays.toString(method.getParameterTypes()).replace("[", "(").replace("]", ")");
                methods.add(method.getReturnType() + " " + method.getName() + numbers);
            }
        }
        same("calls", methods, new TreeSet<>(Arrays.asList(CALLS)));
        for (String call : CALLS) {
            String name = call.substring(call.indexOf(' ') + 1, call.indexOf('('));
            CHECK.due("a private method has the name " + name, hidden.contains(name) ? 1 : 0, 0);
        }
        Set<String> fields = new TreeSet<>();
        for (Field field : BookPairs.class.getDeclaredFields()) {
            if (!Modifier.isPrivate(field.getModifiers())) {
                fields.add(field.getName());
            }
        }
        same("constants", fields, new TreeSet<>(Arrays.asList(CONSTANTS)));
        CHECK.due("LOST", BookPairs.LOST, Long.MIN_VALUE);
        Constructor<?>[] constructors = BookPairs.class.getDeclaredConstructors();
        CHECK.due("constructors", constructors.length, 1);
        CHECK.due("of no numbers", constructors[0].getParameterCount(), 0);
        CHECK.due("public", Modifier.isPublic(constructors[0].getModifiers()) ? 1 : 0, 1);
    }

    private static void inside() {
        Class<?>[] inside = BookPairs.class.getDeclaredClasses();
        CHECK.due("at most twelve classes", inside.length < 12 ? 1 : 0, 1);
        for (Class<?> it : inside) {
            CHECK.due(it + " is static", Modifier.isStatic(it.getModifiers()) ? 1 : 0, 1);
            CHECK.due(it + " is not public", Modifier.isPublic(it.getModifiers()) ? 1 : 0, 0);
        }
    }

    private static String code() throws Exception {
        String text = Files.readString(Path.of("src/main/java/BookPairs.java"));
        return text.replaceAll("(?s)/\\*.*?\\*/", "").replaceAll("//[^\n]*", "");
    }

    private static void source() throws Exception {
        String code = code();
        for (String word : RULED_OUT) {
            CHECK.due("the word " + word, Pattern.compile("\\b" + word + "\\b").matcher(code).find() ? 1 : 0, 0);
        }
        CHECK.due("lambdas, references", code.contains("->") || code.contains("::") ? 1 : 0, 0);
        CHECK.due("a package", code.contains("package ") ? 1 : 0, 0);
        Matcher imports = Pattern.compile("import ([^;]*);").matcher(code);
        while (imports.find()) {
            CHECK.due("import " + imports.group(1), imports.group(1).equals("java.util.Arrays") ? 1 : 0, 1);
        }
    }

    /** Rule 12, and the room that all calls of a run share: what is made is made with the object, never by a call. */
    private static void onlyConstructorsMakeObjects() throws Exception {
        String constructor = "sheets[k] = new Sheet();";
        for (String line : code().split("\n")) {
            if (Pattern.compile("\\bnew\\b|\\bclone\\b|\\bcopyOf|\\bString|\\bList\\b").matcher(line).find()) {
                boolean ofField = line.matches(" +(private )?final [\\w\\[\\]]+ \\w+ = new .*;");
                CHECK.due("made with the object:" + line, ofField || line.trim().equals(constructor) ? 1 : 0, 1);
            }
        }
    }

    /** Rule 11: at most seven parameters, some sixty lines. */
    private static void methodsAreShort() throws Exception {
        String[] lines = code().split("\n");
        Pattern head = Pattern.compile("( +)\\w[\\w\\[\\] ]+\\(([^()]*)\\) \\{");
        int methods = 0;
        for (int k = 0; k < lines.length; k++) {
            Matcher method = head.matcher(lines[k]);
            if (method.matches() && !lines[k].matches(" +(if|for|while|switch) .*")) {
                methods++;
                int end = k;
                while (end < lines.length && !lines[end].equals(method.group(1) + "}")) {
                    end++;
                }
                CHECK.due("lines of" + lines[k], end - k < 60 ? 1 : 0, 1);
                CHECK.due("parameters of" + lines[k], method.group(2).split(",").length <= 7 ? 1 : 0, 1);
            }
        }
        CHECK.due("methods are seen", methods > CALLS.length ? 1 : 0, 1);
    }
}
