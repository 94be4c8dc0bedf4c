import java.io.IOException;
import java.lang.reflect.Constructor;
import java.lang.reflect.Field;
import java.lang.reflect.Method;
import java.lang.reflect.Modifier;
import java.nio.file.Files;
import java.nio.file.Path;
import java.util.Arrays;
import java.util.Set;
import java.util.TreeSet;
import java.util.regex.Matcher;
import java.util.regex.Pattern;

/** Rules of LANGUAGE.md that the source, or reflection, can be asked for. */
public final class Language {
    private static final Path SOURCE = Path.of("src/main/java/PunchCards.java");
    private static final Set<String> FACE = new TreeSet<>(Arrays.asList(("feed chapel fault count card lace figure snarl sundays punch turn"
        + " cut change undo then granted worn changes floats stands order punching same see forget backwards punched next toCut coats game"
        + " drawn gap unlike family turning leftOut cutting mirrored swap image restore").split(" ")));
    private static final Set<String> LIBRARY = Set.of("Arrays.fill", "Integer.bitCount", "Math.min", "Math.max", "System.arraycopy");
    private static final Set<String> EXCEPTIONS = Set.of("NoSuchElementException", "IllegalArgumentException");
    private static int wrong = 0;

    private static void wrong(int rule, String text) {
        wrong++;
        System.out.println("rule " + rule + ": " + text);
    }

    private static void face() {
        Class<?> c = PunchCards.class;
        if (!Modifier.isFinal(c.getModifiers()) || !Modifier.isPublic(c.getModifiers())) wrong(1, "not public and final");
        Set<String> found = new TreeSet<>();
        for (Method m : c.getDeclaredMethods()) {
            if (Modifier.isPublic(m.getModifiers())) found.add(m.getName());
            else if (!Modifier.isPrivate(m.getModifiers())) wrong(1, m + " is seen outside");
        }
        if (!found.equals(FACE)) wrong(1, "the face is " + found);
        for (Field f : c.getDeclaredFields()) {
            boolean none = f.getName().equals("NONE") && Modifier.isPublic(f.getModifiers());
            if (!none && !Modifier.isPrivate(f.getModifiers())) wrong(1, f + " is seen outside");
        }
        for (Constructor<?> k : c.getDeclaredConstructors()) if (k.getParameterCount() > 0) wrong(1, k.toString());
        for (Class<?> inside : c.getDeclaredClasses()) {
            if (!Modifier.isStatic(inside.getModifiers()) || Modifier.isPublic(inside.getModifiers())) wrong(1, inside + " is not as told");
        }
    }

    /** Every constant, constructor and method as the document writes it, with its types and exceptions, and none besides. */
    private static void documentsFace() throws IOException {
        Path document = Path.of("../shared/DOC.md");
        Set<String> told = new TreeSet<>();
        Matcher lines = Pattern.compile("(?m)^    (public [^;]*);$").matcher(Files.readString(document));
        while (lines.find()) told.add(lines.group(1).replaceAll("(int|boolean) \\w+(?=[,)])", "$1").replaceAll(" = .*", ""));
        Set<String> found = new TreeSet<>();
        for (Method m : PunchCards.class.getDeclaredMethods()) if (Modifier.isPublic(m.getModifiers())) found.add(written(m.toString()));
        for (Constructor<?> k : PunchCards.class.getDeclaredConstructors()) found.add(written(k.toString()));
        for (Field f : PunchCards.class.getDeclaredFields()) if (Modifier.isPublic(f.getModifiers())) found.add(written(f.toString()));
        if (told.isEmpty() || !found.equals(told)) wrong(1, "the document's face is " + told + ", this is " + found);
    }

    private static String written(String member) {
        return member.replace("PunchCards.", "").replaceAll("java\\.(lang|util)\\.", "").replace(",", ", ");
    }

    private static void members(Class<?> c) {
        int fields = 0;
        for (Field f : c.getDeclaredFields()) {
            if (!Modifier.isStatic(f.getModifiers())) fields++;
            else if (!Modifier.isFinal(f.getModifiers())) wrong(5, f + " is not final");
        }
        if (fields > 20) wrong(11, c + " has " + fields + " fields");
        for (Method m : c.getDeclaredMethods()) {
            if (m.getParameterCount() > 7) wrong(11, m + " takes too much");
            if (!Modifier.isPublic(m.getModifiers()) && FACE.contains(m.getName())) wrong(1, m + " bears a public name");
        }
    }

    private static String bare(String source) {
        return source.replaceAll("(?s)/\\*.*?\\*/", "").replaceAll("//[^\n]*", "").replaceAll("\"[^\"\n]*\"", "\"\"");
    }

    private static void words(String code) {
        for (String word : "try catch finally synchronized assert instanceof native volatile package protected yield var".split(" ")) {
            if (Pattern.compile("\\b" + word + "\\b").matcher(code).find()) wrong(6, word + " is used");
        }
        for (String sign : new String[] {"->", "::", "@", "static {"}) if (code.contains(sign)) wrong(2, sign + " is used");
        Matcher calls = Pattern.compile("\\b(Arrays|Integer|Long|Math|System|String|List|Character)\\.(\\w+)").matcher(code);
        while (calls.find()) if (!calls.group().startsWith("java") && !LIBRARY.contains(calls.group())) wrong(4, calls.group() + " is used");
        Matcher thrown = Pattern.compile("throw\\s+new\\s+(\\w+)").matcher(code);
        while (thrown.find()) if (!EXCEPTIONS.contains(thrown.group(1))) wrong(6, thrown.group());
        Matcher imports = Pattern.compile("import\\s+([\\w.]+)").matcher(code);
        while (imports.find()) {
            if (!imports.group(1).matches("java\\.util\\.(Arrays|NoSuchElementException)")) wrong(4, imports.group());
        }
    }

    private static void lengths(String source) {
        String[] lines = source.split("\n");
        int start = -1;
        String open = "";
        for (int i = 0; i < lines.length; i++) {
            Matcher head = Pattern.compile("^( {4}| {8})\\S.*\\(.*\\).*\\{$").matcher(lines[i]);
            if (start < 0 && head.matches() && !lines[i].contains(" class ")) {
                start = i;
                open = head.group(1);
            } else if (start >= 0 && lines[i].equals(open + "}")) {
                if (i - start > 60) wrong(11, lines[start] + " has " + (i - start) + " lines");
                start = -1;
            }
        }
    }

    public static void main(String[] args) throws Exception {
        String source = Files.readString(SOURCE);
        face();
        documentsFace();
        members(PunchCards.class);
        int classes = 1;
        for (Class<?> inside : PunchCards.class.getDeclaredClasses()) {
            classes++;
            members(inside);
        }
        if (classes > 12) wrong(11, classes + " classes");
        words(bare(source));
        lengths(source);
        System.out.println("language: " + classes + " classes, " + wrong + " wrong");
        System.exit(wrong == 0 ? 0 : 1);
    }
}
