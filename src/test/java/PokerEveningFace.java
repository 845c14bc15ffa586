import java.lang.reflect.Constructor;
import java.lang.reflect.Executable;
import java.lang.reflect.Field;
import java.lang.reflect.Method;
import java.lang.reflect.Modifier;
import java.nio.charset.StandardCharsets;
import java.nio.file.Files;
import java.nio.file.Path;
import java.util.ArrayList;
import java.util.List;
import java.util.Set;
import java.util.TreeSet;
import java.util.regex.Matcher;
import java.util.regex.Pattern;

/** The document's public face, and those rules of LANGUAGE.md that can be seen from outside or in the source. */
public final class PokerEveningFace {
    private static final Set<String> METHODS = Set.of("write/1", "wipe/0", "fault/0", "lay/0", "teller/2", "fact/1",
            "claim/2", "turn/1", "add/4", "strike/1", "shift/2", "grip/2", "undo/0", "drops/1", "told/0", "hot/1",
            "hottest/0", "order/1", "leave/2", "holds/2", "seen/2", "forget/0", "worlds/1", "next/2", "kinds/1",
            "grips/2", "likely/3", "evenings/3", "keep/0", "back/0", "count/1");
    private static final Set<String> CONSTANTS = Set.of("BAD", "NO", "FULL", "NONE");
    private static final Set<String> LIBRARY = Set.of("Integer.bitCount", "Long.bitCount", "Math.max", "Math.min",
            "System.arraycopy");
    private static int wrong = 0;

    private static void must(boolean holds, String what) {
        if (!holds) {
            wrong++;
            System.out.println("not so: " + what);
        }
    }

    public static void main(String[] args) throws Exception {
        face();
        List<Class<?>> classes = new ArrayList<>(List.of(PokerEvening.class.getDeclaredClasses()));
        for (Class<?> inner : classes) {
            must(Modifier.isStatic(inner.getModifiers()), inner + " is static");
            must(!Modifier.isPublic(inner.getModifiers()) && !Modifier.isProtected(inner.getModifiers()),
                    inner + " is not public");
        }
        classes.add(PokerEvening.class);
        must(classes.size() <= 12, "twelve classes at most");
        for (Class<?> each : classes) {
            members(each);
        }
        String written = Files.readString(Path.of("src/main/java/PokerEvening.java"), StandardCharsets.US_ASCII);
        asInTheDocument(written, Files.readString(Path.of("../shared/DOC.md"), StandardCharsets.UTF_8));
        source(written);
        System.out.println(wrong == 0 ? "the face is as due" : wrong + " things are not as due");
        if (wrong != 0) {
            System.exit(1);
        }
    }

    private static void face() {
        Class<?> type = PokerEvening.class;
        must(Modifier.isPublic(type.getModifiers()) && Modifier.isFinal(type.getModifiers()), "public and final");
        must(type.getSuperclass() == Object.class && type.getInterfaces().length == 0, "extends nothing");
        Set<String> found = new TreeSet<>();
        for (Method method : type.getDeclaredMethods()) {
            if (!Modifier.isPrivate(method.getModifiers())) {
                found.add(method.getName() + "/" + method.getParameterCount());
                must(Modifier.isPublic(method.getModifiers()) && !Modifier.isStatic(method.getModifiers())
                        && method.getReturnType() == int.class, method + " is of the face");
                for (Class<?> parameter : method.getParameterTypes()) {
                    must(parameter == int.class, method + " takes ints");
                }
            }
        }
        must(found.equals(METHODS), "the methods of the face: " + found);
        Constructor<?>[] made = type.getDeclaredConstructors();
        must(made.length == 1 && made[0].getParameterCount() == 0 && Modifier.isPublic(made[0].getModifiers()),
                "one public constructor");
        Set<String> constants = new TreeSet<>();
        for (Field field : type.getDeclaredFields()) {
            if (!Modifier.isPrivate(field.getModifiers())) {
                constants.add(field.getName());
                must(Modifier.isPublic(field.getModifiers()) && Modifier.isStatic(field.getModifiers())
                        && field.getType() == int.class, field + " is of the face");
            }
        }
        must(constants.equals(CONSTANTS), "the constants of the face: " + constants);
    }

    /** The rows of the face stand in the class as the document has them, in its order, and no other is public. */
    private static void asInTheDocument(String written, String document) {
        Matcher face = Pattern.compile("(?s)```java\n(public final class .*?)```").matcher(document);
        must(face.find(), "the document shows the face");
        must(publicRows(written).equals(publicRows(face.group(1))), "the face is the document's: " + publicRows(written));
    }

    private static List<String> publicRows(String text) {
        List<String> rows = new ArrayList<>();
        for (String row : text.split("\n")) {
            if (row.strip().startsWith("public ")) {
                rows.add(row.strip().replaceAll("\\s*[;{]$", ""));
            }
        }
        return rows;
    }

    private static void members(Class<?> type) {
        int fields = 0;
        for (Field field : type.getDeclaredFields()) {
            if (Modifier.isStatic(field.getModifiers())) {
                must(Modifier.isFinal(field.getModifiers()), field + " is final");
                must(field.getType() == int.class || field.getType() == String.class, field + " is a plain constant");
            } else {
                fields++;
            }
        }
        must(fields <= 20, type + " has twenty fields at most");
        List<Executable> all = new ArrayList<>(List.of(type.getDeclaredMethods()));
        all.addAll(List.of(type.getDeclaredConstructors()));
        for (Executable each : all) {
            must(each.getParameterCount() <= 7, each + " takes seven parameters at most");
            must(!each.isSynthetic(), each + " is written out");
        }
        for (Method method : type.getDeclaredMethods()) {
            boolean ofTheFace = type == PokerEvening.class && Modifier.isPublic(method.getModifiers());
            for (String name : METHODS) {
                must(ofTheFace || !name.startsWith(method.getName() + "/"), method + " bears a public method's name");
            }
        }
    }

    private static void source(String text) {
        String bare = text.replaceAll("(?s)/\\*.*?\\*/", "").replaceAll("//[^\n]*", "")
                .replaceAll("\"[^\"\n]*\"", "\"\"").replaceAll("'[^'\n]*'", "' '");
        for (String word : List.of("import", "package", "throw", "throws", "try", "catch", "finally", "synchronized",
                "assert", "var", "goto", "native", "volatile", "transient", "strictfp", "double", "float", "equals",
                "hashCode", "toString", "yield", "sealed", "Exact")) {
            must(!Pattern.compile("\\b" + word + "\\b").matcher(bare).find(), "no word " + word);
        }
        must(!bare.contains("->") && !bare.contains("::"), "no lambda, no method reference");
        must(!bare.contains("\"\" +") && !bare.contains("+ \"\""), "no texts joined by +");
        Matcher calls = Pattern.compile("\\b([A-Z][a-z]\\w*\\.\\w+)").matcher(bare);
        while (calls.find()) {
            must(LIBRARY.contains(calls.group(1)), "the library has " + calls.group(1));
        }
        lengths(bare.split("\n"));
        divisors(bare);
        indices(bare);
    }

    private static void lengths(String[] lines) {
        int start = 0;
        for (int i = 0; i < lines.length; i++) {
            if (lines[i].matches("( {4}| {8})(public|private) .*\\) \\{")) {
                start = i;
            }
            if (lines[i].matches("( {4}| {8})\\}")) {
                must(i - start <= 60 || lines[start].contains(" class "), "a short method at line " + start);
            }
        }
    }

    /** A divisor is a number written out, or one of the names that are tested right ahead. */
    private static void divisors(String bare) {
        Matcher divisor = Pattern.compile("[/%]=?\\s*([\\w.]+)").matcher(bare);
        while (divisor.find()) {
            must(divisor.group(1).matches("[1-9]\\d*|shared|b|stirred\\.factCount"), "a divisor: " + divisor.group());
        }
    }

    /** Rows are indexed in few places, each behind a test. */
    private static void indices(String bare) {
        Set<String> found = new TreeSet<>();
        Matcher index = Pattern.compile("(\\w+\\[[^\\]\n]+\\])").matcher(bare.replaceAll("new \\w+\\[[^\\]]*\\]", ""));
        while (index.find()) {
            found.add(index.group(1));
        }
        must(Set.of("row[i]", "stages[i]", "stages[depth]", "rooms[i]", "rooms[i - 1]", "rooms[rooms.length - 1]")
                .containsAll(found), "indices behind tests: " + found);
    }
}
