import java.io.IOException;
import java.lang.reflect.Constructor;
import java.lang.reflect.Field;
import java.lang.reflect.Method;
import java.lang.reflect.Modifier;
import java.nio.file.Files;
import java.nio.file.Path;
import java.util.ArrayList;
import java.util.HashSet;
import java.util.List;
import java.util.Set;
import java.util.TreeSet;
import java.util.regex.Matcher;
import java.util.regex.Pattern;

/** What of ../shared/LANGUAGE.md can be looked up: the face, the words of the source, its sizes. */
public final class FormTest {
    private static final String SOURCE = "src/main/java/ScalesByHate.java";
    private static final Due due = new Due();

    public static void main(String[] args) throws IOException {
        theFaceIsTheDocuments();
        classesAreOfTheForm();
        String source = Files.readString(Path.of(SOURCE));
        wordsAreOfTheForm(withoutComments(source));
        methodsAreShort(withoutComments(source));
        due.end();
    }

    private static void theFaceIsTheDocuments() {
        due.rule(1, "the face is the document's");
        Class<?> c = ScalesByHate.class;
        due.holds("public and final", Modifier.isPublic(c.getModifiers()) && Modifier.isFinal(c.getModifiers()));
        Set<String> shown = new TreeSet<>();
        for (Method m : c.getDeclaredMethods()) {
            if (!Modifier.isPrivate(m.getModifiers())) {
                due.holds(m + " is public and of an object",
                    Modifier.isPublic(m.getModifiers()) && !Modifier.isStatic(m.getModifiers()));
                StringBuilder text = new StringBuilder(m.getName()).append('(');
                for (Class<?> p : m.getParameterTypes()) {
                    text.append(text.charAt(text.length() - 1) == '(' ? "" : ",").append(p.getName());
                }
                shown.add(text.append("):").append(m.getReturnType().getName()).toString());
            }
        }
        due.holds("the methods shown: " + shown, shown.equals(new TreeSet<>(Face.CALLS)));
        Set<String> constants = new TreeSet<>();
        for (Field f : c.getDeclaredFields()) {
            if (!Modifier.isPrivate(f.getModifiers())) {
                due.holds(f + " is a constant", f.getModifiers() == (Modifier.PUBLIC | Modifier.STATIC | Modifier.FINAL));
                constants.add(f.getName());
            }
        }
        due.holds("the constants: " + constants, constants.equals(Set.of("BAD", "NOT", "FULL", "STATE", "VOID")));
        due.is("BAD", ScalesByHate.BAD, -1);
        due.is("NOT", ScalesByHate.NOT, -2);
        due.is("FULL", ScalesByHate.FULL, -3);
        due.is("STATE", ScalesByHate.STATE, -5);
        due.is("VOID", ScalesByHate.VOID, -2000000000);
        Constructor<?>[] made = c.getDeclaredConstructors();
        due.holds("one constructor", made.length == 1 && Modifier.isPublic(made[0].getModifiers())
            && made[0].getParameterCount() == 0);
    }

    private static void classesAreOfTheForm() {
        due.rule(2, "classes inside, their members and sizes");
        Set<String> face = new HashSet<>();
        for (String call : Face.CALLS) {
            face.add(Face.nameOf(call));
        }
        List<Class<?>> all = new ArrayList<>(List.of(ScalesByHate.class.getDeclaredClasses()));
        due.holds("some twelve classes: " + (all.size() + 1), all.size() + 1 <= 12);
        for (Class<?> c : all) {
            due.holds(c + " is static", Modifier.isStatic(c.getModifiers()));
            due.holds(c + " is not shown", !Modifier.isPublic(c.getModifiers()) && !Modifier.isProtected(c.getModifiers()));
            for (Method m : c.getDeclaredMethods()) {
                due.holds(m + " bears no name of the face", !face.contains(m.getName()));
            }
        }
        all.add(ScalesByHate.class);
        for (Class<?> c : all) {
            int fields = 0;
            for (Field f : c.getDeclaredFields()) {
                boolean isStatic = Modifier.isStatic(f.getModifiers());
                fields += isStatic ? 0 : 1;
                due.holds(f + " is final if static", !isStatic || Modifier.isFinal(f.getModifiers()));
            }
            due.holds(c + " has some twenty fields: " + fields, fields <= 20);
            for (Method m : c.getDeclaredMethods()) {
                due.holds(m + " takes at most seven", m.getParameterCount() <= 7);
            }
        }
    }

    private static String withoutComments(String source) {
        return source.replaceAll("(?s)/\\*.*?\\*/", "").replaceAll("//[^\n]*", "");
    }

    private static void wordsAreOfTheForm(String source) {
        due.rule(4, "no word that the rules leave out");
        String[] words = {"import", "package", "try", "catch", "finally", "throw", "throws", "synchronized", "assert",
            "volatile", "transient", "native", "instanceof", "System\\.(?!arraycopy)", "Thread", "Random", "->", "::",
            "Exact\\b", "hashCode", "toString", "equals", "strictfp", "double", "float", "goto", "record", "var"};
        for (String word : words) {
            String pattern = word.matches("[A-Za-z]+") ? "\\b" + word + "\\b" : word;
            due.holds("no " + word, !Pattern.compile(pattern).matcher(source).find());
        }
        for (int i = 0; i < source.length(); i++) {
            if (source.charAt(i) > 127) {
                due.is("a sign of the source at " + i, source.charAt(i), '?');
            }
        }
    }

    private static void methodsAreShort(String source) {
        due.rule(11, "methods stay short");
        Pattern head = Pattern.compile("(?m)^( {4}| {8})(?:[A-Za-z\\[\\]]+ )+[A-Za-z]+\\([^)]*\\) \\{$");
        Matcher m = head.matcher(source);
        int methods = 0;
        while (m.find()) {
            methods++;
            int end = source.indexOf("\n" + m.group(1) + "}", m.end());
            long lines = source.substring(m.start(), end).lines().count() + 1;
            due.holds(m.group().trim() + " has some sixty lines: " + lines, lines <= 60);
        }
        due.holds("methods were found: " + methods, methods > 150);
    }
}
