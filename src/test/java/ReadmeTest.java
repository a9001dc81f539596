import java.io.ByteArrayOutputStream;
import java.io.File;
import java.io.IOException;
import java.io.InputStream;
import java.lang.reflect.Method;
import java.lang.reflect.Modifier;
import java.nio.charset.StandardCharsets;
import java.nio.file.Files;
import java.nio.file.Path;
import java.util.ArrayList;
import java.util.List;
import java.util.Set;
import java.util.TreeSet;
import java.util.regex.Matcher;
import java.util.regex.Pattern;

/** README.md: its program is run as it stands there, and every call and every test is named in it. */
public final class ReadmeTest {
    private static final Path PAGE = Path.of("README.md");
    private static final Path CLASS = Path.of("src/main/java/PraisedFields.java");
    private static final Path TESTS = Path.of("src/test/java");

    private static int wrong = 0;

    private static void hold(boolean holds, String what) {
        if (!holds) {
            wrong++;
            System.out.println("does not hold: " + what);
        }
    }

    /** What stands between the fences of the first block in that language. */
    private static String block(String page, String language) {
        Matcher found = Pattern.compile("(?s)```" + language + "\n(.*?)```").matcher(page);
        boolean stands = found.find();
        hold(stands, "README.md has a block of " + language);
        return stands ? found.group(1) : "";
    }

    private static String tool(String name) {
        return Path.of(System.getProperty("java.home"), "bin", name).toString();
    }

    /** What a command prints; its exit code must be 0. */
    private static String printed(String... command) throws IOException, InterruptedException {
        Process process = new ProcessBuilder(command).redirectErrorStream(true).start();
        ByteArrayOutputStream all = new ByteArrayOutputStream();
        try (InputStream out = process.getInputStream()) {
            out.transferTo(all);
        }
        String text = all.toString(StandardCharsets.UTF_8);
        hold(process.waitFor() == 0, String.join(" ", command) + " ends with 0: " + text);
        return text.replace("\r\n", "\n");
    }

    private static void program(String page) throws IOException, InterruptedException {
        Path folder = Files.createTempDirectory("readme");
        Path source = folder.resolve("Harvest.java");
        try {
            Files.writeString(source, block(page, "java"));
            String classes = folder.resolve("classes").toString();
            printed(tool("javac"), "-d", classes, CLASS.toString(), source.toString());
            String got = printed(tool("java"), "-cp", classes, "Harvest");
            hold(got.equals(block(page, "text")), "the program prints what README.md says, but: " + got);
        } finally {
            remove(folder.toFile());
        }
    }

    private static void remove(File file) {
        File[] inside = file.listFiles();
        if (inside != null) {
            for (File each : inside) {
                remove(each);
            }
        }
        hold(file.delete(), "nothing is left behind: " + file);
    }

    /** The rows of the calls are those of the class, with as many numbers each. */
    private static void calls(String page) {
        Set<String> rows = new TreeSet<>();
        Matcher row = Pattern.compile("(?m)^\\| `(\\w+)\\(([^)]*)\\)` \\| \\S").matcher(page);
        while (row.find()) {
            int numbers = row.group(2).isEmpty() ? 0 : row.group(2).split(",").length;
            hold(rows.add(row.group(1) + "/" + numbers), "one row for " + row.group(1));
        }
        Set<String> face = new TreeSet<>();
        for (Method m : PraisedFields.class.getDeclaredMethods()) {
            if (Modifier.isPublic(m.getModifiers())) {
                face.add(m.getName() + "/" + m.getParameterCount());
            }
        }
        hold(rows.equals(face), "README.md has a row for each call: " + rows + " for " + face);
    }

    private static void answers(String page) {
        String[] names = {"BAD", "STATE", "FULL", "NONE"};
        int[] values = {PraisedFields.BAD, PraisedFields.STATE, PraisedFields.FULL, PraisedFields.NONE};
        for (int i = 0; i < names.length; i++) {
            hold(page.contains("| " + values[i] + " | `" + names[i] + "` |"), "README.md tells " + names[i]);
        }
    }

    private static List<String> testFiles() {
        List<String> names = new ArrayList<>();
        String[] files = TESTS.toFile().list();
        for (String file : files == null ? new String[0] : files) {
            if (file.endsWith(".java")) {
                names.add(file.substring(0, file.length() - ".java".length()));
            }
        }
        hold(!names.isEmpty(), "there are tests at " + TESTS);
        return names;
    }

    private static void tests(String page) {
        for (String name : testFiles()) {
            hold(page.contains("`" + name + "`"), "README.md names " + name);
        }
        hold(page.contains(".ci/run"), "README.md says how all tests are run");
    }

    public static void main(String[] args) throws Exception {
        String page = Files.readString(PAGE);
        program(page);
        calls(page);
        answers(page);
        tests(page);
        System.out.println(wrong == 0 ? "README.md holds" : wrong + " things do not hold");
        if (wrong != 0) {
            System.exit(1);
        }
    }
}
