import java.io.File;
import java.io.IOException;
import java.lang.reflect.InvocationTargetException;
import java.lang.reflect.Method;
import java.lang.reflect.Modifier;
import java.net.URL;
import java.net.URLClassLoader;
import java.nio.file.Files;
import java.nio.file.Path;
import java.util.ArrayList;
import java.util.Arrays;
import java.util.Comparator;
import java.util.List;
import java.util.Set;
import java.util.TreeSet;
import java.util.regex.Matcher;
import java.util.regex.Pattern;
import java.util.stream.Stream;
import javax.tools.ToolProvider;

/** What README.md says is so when tried, and SENTENCES.md names tests that there are. */
public final class ReadmeTest {
    private static final long THROWN = Long.MIN_VALUE;
    private static final Pattern ASKED = Pattern.compile("(x\\..*);\\s*// (throws )?([\\w-]+)( = .*)?");
    private static final Pattern ROW = Pattern.compile("\\| `(\\w+)\\((.*?)\\)` \\|.*\\| ([\\w -]+) \\|");
    private static final Pattern NAMED = Pattern.compile("(\\w+Test)\\.(\\w+)((, \\w+)*)");

    private ReadmeTest() {
    }

    public static void main(String[] args) throws Exception {
        String readme = Files.readString(Path.of("README.md"));
        examples(readme);
        calls(readme);
        named(readme);
        sentences();
        Due.close("ReadmeTest");
    }

    private static List<String> blocks(String page) {
        List<String> all = new ArrayList<>();
        String[] parts = page.split("```");
        for (int k = 1; k < parts.length; k += 2) {
            if (parts[k].startsWith("java\n")) {
                all.add(parts[k].substring(5));
            }
        }
        return all;
    }

    /** The blocks of the page as one program: methods as they are, of lines with an answer the answers. */
    private static void examples(String readme) throws Exception {
        List<String> asked = new ArrayList<>();
        List<Long> due = new ArrayList<>();
        StringBuilder methods = new StringBuilder();
        StringBuilder lines = new StringBuilder();
        for (String block : blocks(readme)) {
            if (block.startsWith("static ")) {
                methods.append(block);
                continue;
            }
            for (String line : block.split("\n")) {
                Matcher m = ASKED.matcher(line);
                if (!m.matches()) {
                    Due.is("no answer told: " + line, line.contains("// ") || line.startsWith("x."), false);
                    lines.append(line).append('\n');
                    continue;
                }
                asked.add(m.group(1));
                due.add(m.group(2) != null ? THROWN : value(m.group(3)));
                lines.append("try { all.add(bit(" + m.group(1) + ")); } catch (java.util.NoSuchElementException e) { "
                        + "all.add(" + (m.group(2) != null ? "Long.MIN_VALUE" : "1L + Long.MIN_VALUE") + "); }\n");
            }
        }
        long[] got = run("public class Tried {\n static long bit(long v) { return v; }\n"
                + "static long bit(boolean v) { return v ? 1 : 0; }\n" + methods
                + "public static java.util.List<Long> all() {\njava.util.List<Long> all = new java.util.ArrayList<>();\n"
                + lines + "return all;\n}\n}\n");
        Due.same("README has so many answers", got.length, asked.size());
        Due.is("README asks of most calls", asked.size() > 60, true);
        for (int k = 0; k < got.length; k++) {
            Due.same("README: " + asked.get(k), got[k], due.get(k));
        }
    }

    private static long value(String told) {
        switch (told) {
            case "NONE":
                return PotBook.NONE;
            case "HIDDEN":
                return PotBook.HIDDEN;
            case "true":
                return 1;
            case "false":
                return 0;
            default:
                return Long.parseLong(told);
        }
    }

    private static long[] run(String program) throws Exception {
        Path dir = Files.createTempDirectory("readme");
        try {
            Path file = dir.resolve("Tried.java");
            Files.writeString(file, program);
            int rc = ToolProvider.getSystemJavaCompiler().run(null, null, null, "-proc:none", "-d", dir.toString(), "-cp",
                    System.getProperty("java.class.path"), file.toString());
            Due.same("what README has compiles", rc, 0);
            if (rc != 0) {
                return new long[0];
            }
            try (URLClassLoader loader = new URLClassLoader(new URL[] {dir.toUri().toURL()})) {
                List<?> all = (List<?>) loader.loadClass("Tried").getMethod("all").invoke(null);
                return all.stream().mapToLong(v -> (Long) v).toArray();
            }
        } finally {
            clear(dir);
        }
    }

    private static void clear(Path dir) throws IOException {
        try (Stream<Path> all = Files.walk(dir)) {
            for (Path path : all.sorted(Comparator.reverseOrder()).toArray(Path[]::new)) {
                Files.delete(path);
            }
        }
    }

    /** The table has each call of the face, with all its arguments, and what it answers if it is refused. */
    private static void calls(String readme) throws Exception {
        Set<String> told = new TreeSet<>();
        for (String line : readme.split("\n")) {
            Matcher m = ROW.matcher(line);
            if (!m.matches()) {
                continue;
            }
            int many = m.group(2).isEmpty() ? 0 : m.group(2).split(", ").length;
            told.add(m.group(1) + " " + many);
            Method call = method(m.group(1), many);
            Due.is("README: there is " + m.group(1) + " of " + many, call != null, true);
            if (call != null) {
                refused(call, m.group(3).trim());
            }
        }
        Set<String> there = new TreeSet<>();
        for (Method m : PotBook.class.getDeclaredMethods()) {
            if (Modifier.isPublic(m.getModifiers())) {
                there.add(m.getName() + " " + m.getParameterCount());
            }
        }
        Due.is("README tells " + told + ", there are " + there, told.equals(there), true);
    }

    private static Method method(String name, int many) {
        for (Method m : PotBook.class.getDeclaredMethods()) {
            if (m.getName().equals(name) && m.getParameterCount() == many && Modifier.isPublic(m.getModifiers())) {
                return m;
            }
        }
        return null;
    }

    /** With the least int for all arguments there is no call that is not refused but for feed on a TAPE with room. */
    private static void refused(Method call, String due) throws Exception {
        PotBook x = new PotBook();
        for (int k = 0; k < 6; k++) {
            x.feed(-1, -1, -1, -1, -1);
        }
        Object[] a = new Object[call.getParameterCount()];
        for (int k = 0; k < a.length; k++) {
            a[k] = call.getParameterTypes()[k] == boolean.class ? (Object) false : (Object) Integer.MIN_VALUE;
        }
        String got;
        try {
            got = String.valueOf(call.invoke(x, a));
        } catch (InvocationTargetException e) {
            got = "throws " + e.getCause().getClass().getSimpleName();
        }
        got = got.equals("-1") ? "NONE" : got.equals("-10000000") ? "HIDDEN" : got;
        got = call.getName().equals("first") || call.getName().equals("tree") ? "never" : got;
        Due.is("README: " + call.getName() + " refused answers " + due + ", it answered " + got, due.equals(got), true);
    }

    private static List<String> tests() {
        List<String> all = new ArrayList<>();
        for (String name : new File("src/test/java").list()) {
            if (name.endsWith("Test.java")) {
                all.add(name.substring(0, name.length() - 5));
            }
        }
        return all;
    }

    /** Each test, each class inside and each page that README names is there, and each of them is named. */
    private static void named(String readme) throws Exception {
        for (String test : tests()) {
            Due.is("README names " + test, readme.contains("`" + test + "`"), true);
        }
        for (Class<?> inside : PotBook.class.getDeclaredClasses()) {
            Due.is("README names " + inside, readme.contains("`" + inside.getSimpleName() + "`"), true);
        }
        Matcher paths = Pattern.compile("(src/main/java/\\w+\\.java|src/test/java|\\.\\./shared/[\\w.]+|\\.ci/run|\\w+\\.md)").matcher(readme);
        while (paths.find()) {
            String path = paths.group();
            boolean there = new File(path).exists() || path.endsWith("DOC.md") || path.endsWith("LANGUAGE.md");
            Due.is("README: there is " + path, there, true);
        }
        Matcher ours = Pattern.compile("`(\\w+Test)`").matcher(readme);
        while (ours.find()) {
            Due.is("README: there is " + ours.group(1), tests().contains(ours.group(1)), true);
        }
    }

    /** Each test that SENTENCES.md names is there, and no sentence and no promise is without one. */
    private static void sentences() throws Exception {
        Set<Integer> promises = new TreeSet<>();
        for (String line : Files.readString(Path.of("SENTENCES.md")).split("\n")) {
            if (!line.startsWith("| ") || line.startsWith("| sentence") || line.startsWith("| promise")) {
                continue;
            }
            String[] cells = line.split("(?<!\\\\)\\|");
            int found = 0;
            for (int k = 2; k < cells.length; k++) {
                for (String cell : cells[k].split(";")) {
                    found += tested(line, cell.trim());
                }
            }
            Due.is("a test for " + line, found > 0, true);
            Matcher number = Pattern.compile("\\| (\\d+) .*").matcher(line);
            if (number.matches()) {
                promises.add(Integer.parseInt(number.group(1)));
            }
        }
        for (int promise = 1; promise <= 55; promise++) {
            Due.is("SENTENCES.md has promise " + promise, promises.contains(promise), true);
        }
    }

    private static int tested(String line, String cell) throws Exception {
        Matcher m = NAMED.matcher(cell);
        if (!m.matches()) {
            Due.is("names of tests: \"" + cell + "\" in " + line, false, true);
            return 0;
        }
        File file = new File("src/test/java/" + m.group(1) + ".java");
        String source = file.exists() ? Files.readString(file.toPath()) : "";
        for (String name : (m.group(2) + m.group(3)).split(", ")) {
            boolean there = Arrays.stream(source.split("\n")).anyMatch(s -> s.matches("    private static void " + name + "\\(.*"));
            Due.is("there is " + m.group(1) + "." + name, there, true);
        }
        return 1;
    }
}
