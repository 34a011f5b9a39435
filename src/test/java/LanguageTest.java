import java.io.IOException;
import java.lang.reflect.Constructor;
import java.lang.reflect.Field;
import java.lang.reflect.Method;
import java.lang.reflect.Modifier;
import java.nio.file.Files;
import java.nio.file.Path;
import java.util.ArrayList;
import java.util.List;
import java.util.Set;
import java.util.TreeSet;
import java.util.regex.Matcher;
import java.util.regex.Pattern;

/** The rules of LANGUAGE.md that can be seen in the source or in the class, and the document's face. */
public final class LanguageTest {
    private static final String FACE = "feed(iiiii)i sheet(i)i fault(i)i cell(ii)i hand(ii)i stroke(ii)i rub(i)i"
        + " habit(ii)i hide(i)i undo(i)i judge(ii)i perform(i)i night(ii)i longest(ii)i longWay(iii)i stuck(i)i"
        + " stuckWay(ii)i soonest(ii)i way(iii)i reach(i)i ahead(ii)i rows(ii)l ends(i)l likely(ii)i safest(iii)i"
        + " likeliest()i wins(iii)i best(iii)i lasts(iii)i habits(ii)i look(ii)i carried(i)l changes(ii)i"
        + " covers(iii)i chance(iiii)l latest(ii)i numbers(iii)i write(iil)l lists(ii)i image(i)i restore(i)i"
        + " count(i)i";

    public static void main(String[] args) throws IOException {
        String source = Files.readString(Path.of("src/main/java/LastMark.java"));
        String code = bare(source);
        face();
        classes();
        words(code);
        library(code);
        methods(code);
        Checks.finish();
    }

    /** The source without comments and without what stands within quotes. */
    private static String bare(String source) {
        return source.replaceAll("(?s)/\\*.*?\\*/", "").replaceAll("//[^\n]*", "")
            .replaceAll("\"[^\"\n]*\"", "\"\"").replaceAll("'[^'\n]'", "' '");
    }

    private static char letter(Class<?> type) {
        return type == int.class ? 'i' : type == long.class ? 'l' : '?';
    }

    private static void face() {
        Set<String> seen = new TreeSet<>();
        for (Method m : LastMark.class.getDeclaredMethods()) {
            if (Modifier.isPublic(m.getModifiers())) {
                StringBuilder s = new StringBuilder(m.getName()).append('(');
                for (Class<?> type : m.getParameterTypes()) {
                    s.append(letter(type));
                }
                seen.add(s.append(')').append(letter(m.getReturnType())).toString());
            } else {
                Checks.dueTrue("private: " + m, Modifier.isPrivate(m.getModifiers()));
            }
        }
        Checks.dueTrue("the face: " + seen, seen.equals(new TreeSet<>(List.of(FACE.split(" ")))));
        for (Field f : LastMark.class.getDeclaredFields()) {
            boolean told = f.getName().equals("NONE");
            Checks.dueTrue("field " + f, told ? Modifier.isPublic(f.getModifiers()) : Modifier.isPrivate(f.getModifiers()));
        }
        Constructor<?>[] makers = LastMark.class.getDeclaredConstructors();
        Checks.due("constructors", makers.length, 1);
        Checks.dueTrue("the constructor is public", Modifier.isPublic(makers[0].getModifiers()));
        Checks.dueTrue("the class is final", Modifier.isFinal(LastMark.class.getModifiers()));
    }

    private static void classes() {
        Set<String> open = new TreeSet<>();
        for (Method m : LastMark.class.getDeclaredMethods()) {
            if (Modifier.isPublic(m.getModifiers())) {
                open.add(m.getName());
            }
        }
        List<Class<?>> all = new ArrayList<>(List.of(LastMark.class.getDeclaredClasses()));
        Checks.dueTrue("at most twelve classes", all.size() + 1 <= 12);
        for (Class<?> c : all) {
            Checks.dueTrue("static: " + c, Modifier.isStatic(c.getModifiers()));
            for (Method m : c.getDeclaredMethods()) {
                Checks.dueTrue("no public one's name: " + m, !open.contains(m.getName()));
            }
        }
        all.add(LastMark.class);
        for (Class<?> c : all) {
            int fields = 0;
            for (Field f : c.getDeclaredFields()) {
                fields += Modifier.isStatic(f.getModifiers()) ? 0 : 1;
                Checks.dueTrue("static fields are final: " + f,
                    !Modifier.isStatic(f.getModifiers()) || Modifier.isFinal(f.getModifiers()));
            }
            Checks.dueTrue("some twenty fields: " + c + " has " + fields, fields <= 20);
            for (Method m : c.getDeclaredMethods()) {
                Checks.dueTrue("seven parameters: " + m, m.getParameterCount() <= 7);
            }
            for (Constructor<?> m : c.getDeclaredConstructors()) {
                Checks.dueTrue("seven parameters: " + m, m.getParameterCount() <= 7);
            }
        }
    }

    private static void words(String code) {
        String[] none = {"throw", "throws", "try", "catch", "finally", "synchronized", "assert", "System", "Object",
            "Thread", "Random", "volatile", "transient", "native", "var", "yield", "goto", "package", "protected"};
        for (String word : none) {
            Checks.dueTrue("no " + word, !Pattern.compile("\\b" + word + "\\b").matcher(code).find());
        }
        Checks.dueTrue("no lambda", !code.contains("->"));
        Checks.dueTrue("no method reference", !code.contains("::"));
        Checks.dueTrue("no static block", !Pattern.compile("static\\s*\\{").matcher(code).find());
        Checks.dueTrue("no joining of texts by +", !code.contains("\"\" +") && !code.contains("+ \"\""));
        Checks.dueTrue("no three dimensions", !code.contains("[][]["));
        Checks.dueTrue("no loop without a bound", !code.contains("while (true)") && !code.contains("for (;;)"));
    }

    private static void library(String code) {
        Matcher imports = Pattern.compile("import ([\\w.]+);").matcher(code);
        while (imports.find()) {
            Checks.due("import " + imports.group(1), imports.group(1).equals("java.util.Arrays") ? 1 : 0, 1);
        }
        Set<String> allowed = Set.of("Math.max", "Math.min", "Math.abs", "Math.floorMod", "Integer.bitCount",
            "Arrays.fill", "Arrays.copyOf");
        Matcher calls = Pattern.compile("\\b(Math|Integer|Long|Arrays|String)\\.(\\w+)\\(").matcher(code);
        while (calls.find()) {
            String call = calls.group(1) + "." + calls.group(2);
            Checks.dueTrue("library: " + call, allowed.contains(call));
        }
    }

    private static void methods(String code) {
        String[] lines = code.split("\n", -1);
        Pattern head = Pattern.compile("^ {4,8}(?! )[^=;(]*\\b(\\w+)\\([^;]*\\) \\{$");
        for (int i = 0; i < lines.length; i++) {
            Matcher m = head.matcher(lines[i]);
            if (m.find()) {
                String indent = lines[i].substring(0, lines[i].length() - lines[i].stripLeading().length());
                int end = i;
                while (end < lines.length && !lines[end].equals(indent + "}")) {
                    end++;
                }
                Checks.dueTrue("some sixty lines: " + m.group(1), end - i < 60);
            }
        }
    }
}
