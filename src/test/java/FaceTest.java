import java.lang.reflect.Constructor;
import java.lang.reflect.Field;
import java.lang.reflect.Method;
import java.lang.reflect.Modifier;
import java.nio.file.Files;
import java.nio.file.Path;
import java.util.ArrayList;
import java.util.List;
import java.util.TreeSet;
import java.util.regex.Matcher;
import java.util.regex.Pattern;

/** The document's face and nothing else to be seen; and such rules of the language as the text shows. */
public final class FaceTest {
    private static final String[] FACE = {"feed 5", "end 1", "record 0", "place 0", "bond 0", "strike 1", "count 1",
        "fact 2", "person 2", "partner 2", "kin 2", "holder 2", "since 2", "line 3", "rank 3", "coheir 3", "tenures 1",
        "tenure 3", "holds 3", "status 0"};
    private static final String[] FORBIDDEN = {"import", "package", "throw", "throws", "try", "catch", "synchronized",
        "assert", "protected", "transient", "volatile", "native", "Object", "hashCode", "System", "Exact\\w*", "String\\[",
        "->", "::", "@\\w+"};

    public static void main(String[] args) throws Exception {
        face();
        text();
        Told.finish("FaceTest");
    }

    private static void wrong(String what) {
        Told.wrong++;
        System.out.println(what);
    }

    private static void face() throws Exception {
        Class<?> c = HeirRoll.class;
        if (!Modifier.isFinal(c.getModifiers()) || !Modifier.isPublic(c.getModifiers())) wrong("not public and final");
        TreeSet<String> due = new TreeSet<>(List.of(FACE));
        TreeSet<String> names = new TreeSet<>();
        for (String f : FACE) names.add(f.substring(0, f.indexOf(' ')));
        TreeSet<String> seen = new TreeSet<>();
        for (Method m : c.getDeclaredMethods()) {
            if (Modifier.isPrivate(m.getModifiers())) {
                if (names.contains(m.getName())) wrong("private method with a public name: " + m.getName());
                continue;
            }
            seen.add(m.getName() + " " + m.getParameterCount());
            if (m.getReturnType() != int.class || !Modifier.isPublic(m.getModifiers())) wrong("not as told: " + m);
            for (Class<?> p : m.getParameterTypes()) {
                if (p != int.class) wrong("not as told: " + m);
            }
        }
        if (!seen.equals(due)) wrong("the methods are " + seen + ", due are " + due);
        for (Constructor<?> k : c.getDeclaredConstructors()) {
            if (k.getParameterCount() != 0 || !Modifier.isPublic(k.getModifiers())) wrong("constructor: " + k);
        }
        for (Field f : c.getDeclaredFields()) {
            boolean isBad = f.getName().equals("BAD");
            if (isBad != Modifier.isPublic(f.getModifiers())) wrong("field: " + f);
            if (!isBad && !Modifier.isPrivate(f.getModifiers())) wrong("field: " + f);
            if (Modifier.isStatic(f.getModifiers()) && !Modifier.isFinal(f.getModifiers())) wrong("field: " + f);
        }
        for (Class<?> inner : c.getDeclaredClasses()) {
            if (!Modifier.isStatic(inner.getModifiers()) || Modifier.isPublic(inner.getModifiers())) wrong("" + inner);
            if (inner.getDeclaredFields().length > 22) wrong("many fields: " + inner);
        }
        if (c.getDeclaredClasses().length > 11) wrong("many classes");
        Told.due("BAD", HeirRoll.BAD, -9);
    }

    private static void text() throws Exception {
        String source = Files.readString(Path.of("src/main/java/HeirRoll.java"));
        for (int i = 0; i < source.length(); i++) {
            char c = source.charAt(i);
            if (c > 126 || c == '\t') wrong("an odd sign at " + i);
        }
        String code = source.replaceAll("(?s)/\\*.*?\\*/", "").replaceAll("//[^\n]*", "");
        for (String word : FORBIDDEN) {
            boolean isWord = Character.isLetter(word.charAt(0)) && Character.isLetter(word.charAt(word.length() - 1));
            Matcher m = Pattern.compile(isWord ? "\\b" + word + "\\b" : word).matcher(code);
            if (m.find()) wrong("forbidden: " + m.group());
        }
        Matcher joined = Pattern.compile("\"\\s*\\+|\\+\\s*\"").matcher(code);
        if (joined.find()) wrong("texts joined by +");
        methodLengths(code);
    }

    private static void methodLengths(String code) {
        String[] lines = code.split("\n");
        List<Integer> starts = new ArrayList<>();
        for (int i = 0; i < lines.length; i++) {
            if (lines[i].matches("\\s+(private |public |static )*[\\w\\[\\]<>]+ \\w+\\([^;]*\\) \\{")) starts.add(i);
        }
        for (int start : starts) {
            int depth = 0;
            for (int i = start; i < lines.length; i++) {
                depth += lines[i].replaceAll("[^{]", "").length() - lines[i].replaceAll("[^}]", "").length();
                if (depth > 0) continue;
                if (i - start > 60) wrong("a long method: " + lines[start].trim());
                break;
            }
            int commas = lines[start].replaceAll("[^,]", "").length();
            if (commas > 6) wrong("more than seven parameters: " + lines[start].trim());
        }
        if (starts.size() < 60) wrong("only " + starts.size() + " methods were found");
    }
}
