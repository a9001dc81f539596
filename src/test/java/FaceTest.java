import java.io.IOException;
import java.lang.reflect.Constructor;
import java.lang.reflect.Field;
import java.lang.reflect.Method;
import java.lang.reflect.Modifier;
import java.nio.file.Files;
import java.nio.file.Path;
import java.util.ArrayList;
import java.util.Arrays;
import java.util.List;
import java.util.Set;
import java.util.TreeSet;
import java.util.regex.Matcher;
import java.util.regex.Pattern;

/** The public face as the document has it, and the rules of LANGUAGE.md that can be looked up. */
public final class FaceTest {
    private static final String[] FACE = {
        "int feed(int)", "int end(int)", "int text()", "int fault()", "int rule(int)", "int field(int,int)",
        "int band(int,int)", "int alter(int,int,int)", "int march(int,int)", "int play(int,int)", "int glut(int)",
        "int hire(int,int)", "int leave(int)", "int weeks(int)", "int runs(int,int)", "int ahead(int,int,int)",
        "int late(int,int)", "int order(int)", "int move(int,int)", "int still(int,int)", "int need(int,int,int)",
        "int swap(int,int)", "int bear(int,int,int)", "int kind(int,int,int)", "long luck(int,int,int,int,int)",
        "long mean(int,int,int)", "int see(int,int,int)", "int forget(int)", "int kinds(int)", "int blights(int)",
        "int ask(int,int)", "int drift(int,int,int)", "int keep(int)", "int back(int)", "int sheet(int,int,int)",
        "int lay(int,int,int)", "int read(int,int,int,int)", "int torn()", "int count(int)"};
    private static final Path SOURCE = Path.of("src/main/java/PraisedFields.java");

    private static int wrong = 0;

    private static void hold(boolean holds, String what) {
        if (!holds) {
            wrong++;
            System.out.println("does not hold: " + what);
        }
    }

    private static String signature(Method m) {
        List<String> types = new ArrayList<>();
        for (Class<?> type : m.getParameterTypes()) {
            types.add(type.getSimpleName());
        }
        return m.getReturnType().getSimpleName() + " " + m.getName() + "(" + String.join(",", types) + ")";
    }

    private static Set<String> publicNames() {
        Set<String> names = new TreeSet<>();
        for (String line : FACE) {
            names.add(line.replaceAll("^\\w+ (\\w+)\\(.*", "$1"));
        }
        return names;
    }

    private static void methods(Class<?> c) {
        Set<String> open = new TreeSet<>();
        for (Method m : c.getDeclaredMethods()) {
            if (Modifier.isPublic(m.getModifiers())) {
                open.add(signature(m));
            } else {
                hold(Modifier.isPrivate(m.getModifiers()), m + " is private");
                hold(!publicNames().contains(m.getName()), m + " bears no public name");
            }
        }
        hold(open.equals(new TreeSet<>(Arrays.asList(FACE))), "the face is that of the document: " + open);
    }

    private static void fields(Class<?> c) throws IllegalAccessException {
        Set<String> open = new TreeSet<>();
        for (Field f : c.getDeclaredFields()) {
            if (Modifier.isPublic(f.getModifiers())) {
                hold(Modifier.isStatic(f.getModifiers()) && Modifier.isFinal(f.getModifiers()), f + " is constant");
                open.add(f.getName() + f.getInt(null));
            } else {
                hold(Modifier.isPrivate(f.getModifiers()), f + " is private");
            }
        }
        hold(open.equals(Set.of("BAD-1", "STATE-2", "FULL-3", "NONE-4")), "the constants are those of the document");
    }

    private static void inside(Class<?> c) {
        int own = 0;
        for (Field f : c.getDeclaredFields()) {
            int mod = f.getModifiers();
            hold(!Modifier.isStatic(mod) || Modifier.isFinal(mod), f + " is final, being static");
            own += Modifier.isStatic(mod) ? 0 : 1;
        }
        hold(own <= 20, c + " has at most twenty fields");
        for (Method m : c.getDeclaredMethods()) {
            hold(m.getParameterCount() <= 7, m + " takes at most seven parameters");
            hold(c == PraisedFields.class || !publicNames().contains(m.getName()), m + " bears no public name");
        }
    }

    /** The source without its comments, texts and signs, so that words are looked for in code alone. */
    private static String code() throws IOException {
        String source = Files.readString(SOURCE);
        source = source.replaceAll("(?s)/\\*.*?\\*/", " ").replaceAll("//[^\n]*", " ");
        return source.replaceAll("\"[^\"\n]*\"", "\"\"").replaceAll("'[^'\n]'", "0");
    }

    private static void words() throws IOException {
        String code = code();
        String[] never = {"import", "package", "throw", "throws", "try", "catch", "finally", "synchronized", "assert",
            "equals", "hashCode", "toString", "Object", "Thread", "Random", "System\\.(?!arraycopy)", "->", "::",
            "\\w+Exact", "double", "float", "protected", "native", "volatile", "transient", "var"};
        for (String word : never) {
            String bound = Character.isLetter(word.charAt(0)) ? "\\b" : "";
            Matcher found = Pattern.compile(bound + word + (word.endsWith(")") ? "" : bound)).matcher(code);
            hold(!found.find(), "'" + word + "' does not stand in the source");
        }
        for (char sign : Files.readString(SOURCE).toCharArray()) {
            hold(sign == '\n' || sign >= 32 && sign < 127, "the source has plain signs alone");
        }
        int classes = code.split("\\bclass\\b").length - 1;
        hold(classes <= 12, "there are at most twelve classes: " + classes);
    }

    /** Methods stay short: from the line with the name to the brace that closes it. */
    private static void lengths() throws IOException {
        List<String> lines = Files.readAllLines(SOURCE);
        Pattern head = Pattern.compile("^( {4}| {8})\\S.*\\(.*\\{$|^( {4}| {8})public .*\\($");
        for (int i = 0; i < lines.size(); i++) {
            Matcher m = head.matcher(lines.get(i));
            if (m.find()) {
                String indent = lines.get(i).startsWith("        ") ? "        }" : "    }";
                int end = i;
                while (end < lines.size() && !lines.get(end).equals(indent)) {
                    end++;
                }
                hold(end - i < 60, "a method stays short: " + lines.get(i).trim());
            }
        }
    }

    public static void main(String[] args) throws Exception {
        Class<?> c = PraisedFields.class;
        hold(Modifier.isPublic(c.getModifiers()) && Modifier.isFinal(c.getModifiers()), "the class is public, final");
        Constructor<?>[] made = c.getDeclaredConstructors();
        hold(made.length == 1 && made[0].getParameterCount() == 0 && Modifier.isPublic(made[0].getModifiers()),
            "there is one constructor, public");
        methods(c);
        fields(c);
        inside(c);
        for (Class<?> nested : c.getDeclaredClasses()) {
            hold(Modifier.isStatic(nested.getModifiers()), nested + " is static");
            hold(!Modifier.isPublic(nested.getModifiers()), nested + " is not public");
            inside(nested);
        }
        words();
        lengths();
        System.out.println(wrong == 0 ? "the face and the language hold" : wrong + " things do not hold");
        if (wrong != 0) {
            System.exit(1);
        }
    }
}
