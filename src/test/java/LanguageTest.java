import java.io.IOException;
import java.lang.reflect.Field;
import java.lang.reflect.Method;
import java.lang.reflect.Modifier;
import java.nio.file.Files;
import java.nio.file.Path;
import java.util.List;
import java.util.Set;
import java.util.TreeSet;
import java.util.regex.Matcher;
import java.util.regex.Pattern;

/** The rules of ../shared/LANGUAGE.md, as far as the source and the class can be looked through for them. */
public final class LanguageTest {
    private static final String[] FACE = {
        "int feed(int,int,int,int,int)", "boolean end(int)", "int word(int,int,int)",
        "int row(int,int,int,int,int,int)", "int has(int)", "int making(int)", "int ear()", "int fault(int)",
        "int takings(int)", "int taking(int,int,int)", "int weight(int,int,int)", "int tell(int,int)",
        "int say(int,int,int)", "boolean hear()", "int letter(int)", "int ways(int,int)",
        "int odds(int,int,boolean)", "int told(int,int,int,boolean)", "int meant(int)", "int mostly(int,int)",
        "int never(int,int)", "int note(int)", "int undo()", "int recall(int)", "int thrown(int)",
        "int better(int,int)", "int kinds(int)", "int far(boolean)", "int frame(boolean)",
        "int apart(int,int,int)", "int next()", "int reals(int,int,boolean)",
        "int wish(int,int,int,boolean)", "int lean(int,int,int,boolean)", "int image()", "int octet(int)",
        "boolean on()"};
    private static final List<String> FORBIDDEN = List.of("throw", "throws", "try", "catch", "finally", "synchronized",
        "assert", "native", "volatile", "transient", "protected", "package", "enum", "record", "String.format",
        "Object", "->", "::", "Exact", "System.out", "hashCode", "@Override");

    private static int wrong = 0;

    private static void check(boolean holds, String rule) {
        if (!holds) {
            wrong++;
            System.out.println("LANGUAGE: " + rule);
        }
    }

    public static void main(String[] args) throws IOException {
        face();
        members();
        String source = Files.readString(Path.of("src/main/java/SlipDrawer.java"));
        source(source);
        methods(source);
        System.out.println("rules looked at, " + wrong + " broken");
        if (wrong != 0) {
            System.exit(1);
        }
    }

    private static void face() {
        Set<String> found = new TreeSet<>();
        Set<String> names = new TreeSet<>();
        for (Method m : SlipDrawer.class.getDeclaredMethods()) {
            if (Modifier.isPublic(m.getModifiers())) {
                String text = m.toString().replaceAll("^public (static )?", "").replace("SlipDrawer.", "");
                found.add(text);
                names.add(m.getName());
            }
        }
        check(found.equals(new TreeSet<>(List.of(FACE))), "1: the face is " + found);
        for (Class<?> inside : SlipDrawer.class.getDeclaredClasses()) {
            check(Modifier.isStatic(inside.getModifiers()), "2: " + inside + " is not static");
            for (Method m : inside.getDeclaredMethods()) {
                check(!names.contains(m.getName()), "1: " + inside + " has a method " + m.getName());
            }
        }
        check(SlipDrawer.class.getDeclaredConstructors().length == 1, "1: one constructor");
        check(Modifier.isFinal(SlipDrawer.class.getModifiers()), "1: final");
        check(SlipDrawer.class.getDeclaredClasses().length <= 11, "11: classes");
    }

    private static void members() {
        for (Field f : SlipDrawer.class.getDeclaredFields()) {
            boolean isPrivate = Modifier.isPrivate(f.getModifiers());
            check(isPrivate || f.getName().equals("NONE"), "1: field " + f.getName() + " can be seen");
        }
        for (Method m : SlipDrawer.class.getDeclaredMethods()) {
            boolean seen = Modifier.isPublic(m.getModifiers()) || Modifier.isPrivate(m.getModifiers());
            check(seen, "1: method " + m.getName() + " is package-visible");
            check(m.getParameterCount() <= 7, "11: parameters of " + m.getName());
        }
        for (Class<?> inside : SlipDrawer.class.getDeclaredClasses()) {
            int fields = 0;
            for (Field f : inside.getDeclaredFields()) {
                check(!Modifier.isStatic(f.getModifiers()), "5: static " + f);
                fields++;
            }
            check(fields <= 20, "11: fields of " + inside);
        }
    }

    private static void source(String source) {
        String code = source.replaceAll("(?s)/\\*.*?\\*/", "").replaceAll("//[^\n]*", "")
            .replaceAll("\"[^\"\n]*\"", "\"\"");
        for (String word : FORBIDDEN) {
            String edge = Character.isLetter(word.charAt(0)) ? "\\b" : "";
            check(!Pattern.compile(edge + Pattern.quote(word) + edge).matcher(code).find(), "6: " + word);
        }
        Matcher imports = Pattern.compile("(?m)^import (.*);$").matcher(code);
        while (imports.find()) {
            check(imports.group(1).equals("java.util.Arrays"), "4: import " + imports.group(1));
        }
        check(!code.contains("\"\" +") && !code.contains("+ \"\""), "10: texts are not joined by +");
        check(source.chars().allMatch(c -> c < 127), "4: signs of the source");
    }

    /** No method is longer than sixty lines. */
    private static void methods(String source) {
        String[] lines = source.split("\n");
        for (int i = 0; i < lines.length; i++) {
            if (lines[i].matches("^( {4}| {8})[^ ].*\\) \\{$")) {
                String close = lines[i].replaceAll("[^ ].*$", "") + "}";
                int to = i;
                while (!lines[to].equals(close)) {
                    to++;
                }
                check(to - i <= 60, "11: too long: " + lines[i].trim());
            }
        }
    }
}
