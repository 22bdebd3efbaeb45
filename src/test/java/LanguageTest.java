import java.lang.reflect.Constructor;
import java.lang.reflect.Field;
import java.lang.reflect.Member;
import java.lang.reflect.Method;
import java.lang.reflect.Modifier;
import java.nio.file.Files;
import java.nio.file.Path;
import java.util.ArrayList;
import java.util.Arrays;
import java.util.List;
import java.util.Set;
import java.util.TreeSet;
import java.util.regex.Matcher;
import java.util.regex.Pattern;

/** The rules of LANGUAGE.md that can be seen from the text or from the class. */
public final class LanguageTest {
    private static final String[] NOWHERE = {"\\bthrow", "\\btry\\b", "\\bcatch\\b", "\\bfinally\\b",
        "\\bimport\\s+(?!java\\.util\\.(ArrayList|List|Arrays|Iterator)\\s*;)", "\\bpackage\\b", "\\bassert\\b",
        "\\bsynchronized\\b", "(?<!\\bcase [\\w, .]{1,40}|\\bdefault) ->", "::", "Exact\\b", "\\bObject\\b",
        "\\bprotected\\b", "\\bboolean equals\\b", "\\bint hashCode\\b", "\\bString toString\\b",
        "\\bStrictMath\\b", "\\bSystem\\.(?!arraycopy\\b)", "\\bThread\\b", "\\bstatic \\{",
        "\\bMath\\.(random|sqrt|cbrt|pow|exp|log|sin|cos|tan|ceil|floor|rint|round|hypot)\\b",
        "\\[\\]\\[\\]\\[\\]", "[^\\x09\\x0a\\x0d\\x20-\\x7e]"};

    private LanguageTest() {
    }

    public static void main(String[] args) throws Exception {
        String text = Files.readString(Path.of("src/main/java/BusRanges.java"));
        String code = text.replaceAll("(?s)/\\*.*?\\*/", "").replaceAll("//[^\n]*", "");
        for (String pattern : NOWHERE) {
            Due.is("rules 2 to 6, 10, 13: " + pattern, Pattern.compile(pattern).matcher(code).find(), false);
        }
        methodsAreShort(text);
        face();
        classes();
        Due.end();
    }

    /** By the indents of the text: a method ends at the first closing brace of its own indent. */
    private static void methodsAreShort(String text) {
        String[] lines = text.split("\n");
        Pattern head = Pattern.compile("^( +)(?!.*\\b(class|new|if|for|while|switch|else)\\b)\\w[^&|]*\\(.*\\) \\{$");
        for (int i = 0; i < lines.length; i++) {
            Matcher m = head.matcher(lines[i]);
            if (m.find()) {
                int end = i;
                while (end < lines.length - 1 && !lines[end].equals(m.group(1) + "}")) {
                    end++;
                }
                Due.is("rule 11, some sixty lines: " + lines[i].trim(), end - i < 66, true);
            }
        }
    }

    private static final Set<String> BOOLEANS = Set.of("shift", "space", "undo", "redo");

    private static void face() {
        Set<String> want = new TreeSet<>(Arrays.asList(Face.CALLS));
        Set<String> got = new TreeSet<>();
        for (Method m : BusRanges.class.getDeclaredMethods()) {
            if (Modifier.isPublic(m.getModifiers())) {
                got.add(m.getName() + " " + m.getParameterCount());
                Class<?> due = BOOLEANS.contains(m.getName()) ? boolean.class : int.class;
                Due.is("the face: " + m, m.getReturnType() == due, true);
                Due.is("the face: " + m, Arrays.stream(m.getParameterTypes()).allMatch(t -> t == int.class), true);
            } else {
                Due.is("rule 1, private: " + m, Modifier.isPrivate(m.getModifiers()), true);
            }
        }
        Due.is("rule 1, the face: " + got, got.equals(want), true);
        for (Field f : BusRanges.class.getDeclaredFields()) {
            boolean told = f.getName().equals("NONE");
            Due.is("rule 1, private: " + f, told || Modifier.isPrivate(f.getModifiers()), true);
        }
        Constructor<?>[] makers = BusRanges.class.getDeclaredConstructors();
        Due.is("rule 1, one constructor", makers.length, 1);
        Due.is("rule 1, a public one", Modifier.isPublic(makers[0].getModifiers()), true);
        Due.is("rule 1, a final class", Modifier.isFinal(BusRanges.class.getModifiers()), true);
    }

    private static void classes() {
        List<Class<?>> all = new ArrayList<>(Arrays.asList(BusRanges.class.getDeclaredClasses()));
        Due.is("rule 11, some twelve classes", all.size() < 14, true);
        for (Class<?> c : all) {
            Due.is("rule 1, not public: " + c, Modifier.isPublic(c.getModifiers()), false);
            Due.is("rule 2, static: " + c, Modifier.isStatic(c.getModifiers()), true);
        }
        all.add(BusRanges.class);
        Set<String> names = new TreeSet<>();
        for (String call : Face.CALLS) {
            names.add(call.split(" ")[0]);
        }
        for (Class<?> c : all) {
            int fields = 0;
            for (Field f : c.getDeclaredFields()) {
                boolean isStatic = Modifier.isStatic(f.getModifiers());
                Due.is("rule 5, final: " + f, !isStatic || Modifier.isFinal(f.getModifiers()), true);
                fields += isStatic ? 0 : 1;
            }
            Due.is("rule 11, some twenty fields: " + c, fields <= 22, true);
            for (Method m : c.getDeclaredMethods()) {
                Due.is("rule 11, seven parameters: " + m, m.getParameterCount() <= 7, true);
                boolean hidden = !Modifier.isPublic(m.getModifiers());
                Due.is("rule 1, names: " + m, hidden && names.contains(m.getName()), false);
            }
        }
    }
}
