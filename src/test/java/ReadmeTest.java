import java.io.IOException;
import java.lang.reflect.Field;
import java.lang.reflect.Method;
import java.lang.reflect.Modifier;
import java.net.URL;
import java.net.URLClassLoader;
import java.nio.file.Files;
import java.nio.file.Path;
import java.util.ArrayList;
import java.util.List;
import java.util.TreeSet;
import java.util.regex.Matcher;
import java.util.regex.Pattern;
import javax.tools.JavaCompiler;
import javax.tools.ToolProvider;

/** The uses that README.md shows are compiled and run as they stand there, and answer as it says behind each //. */
public final class ReadmeTest {
    private static final Pattern ANSWERED = Pattern.compile("(x\\.(\\w+)\\(.*\\));\\s*// (-?\\d+)(:.*)?");
    private static final Pattern SETTING =
        Pattern.compile("\\| .+ \\| (\\d) \\| (\\d+)(?: \\.\\. | off, )(\\d+)(?:, even| on)? \\| (\\d+) \\|");

    /** Lines that tell an answer, in their order. */
    private static final List<String> CALLS = new ArrayList<>();
    private static final List<Long> DUE = new ArrayList<>();
    private static final TreeSet<String> SHOWN = new TreeSet<>();

    public static void main(String[] args) throws Exception {
        List<String> page = Files.readAllLines(Path.of("README.md"));
        answersAreAsThePageSays(page);
        eachCallIsShownAndTold(String.join("\n", page));
        constantsAreTold(String.join("\n", page));
        settingsAreTold(page);
        Check.finish("ReadmeTest");
    }

    private static void answersAreAsThePageSays(List<String> page) throws Exception {
        List<?> got = answersOf(programOf(page));
        Check.same("answers", got.size(), DUE.size());
        for (int k = 0; k < Math.min(got.size(), DUE.size()); k++) {
            Check.same(CALLS.get(k), (Long) got.get(k), DUE.get(k));
        }
    }

    /** Each block becomes a method of its own, so that each has an x of its own. */
    private static String programOf(List<String> page) {
        StringBuilder program = new StringBuilder("public final class Shown {\n");
        StringBuilder all = new StringBuilder();
        boolean inside = false;
        int blocks = 0;
        for (int k = 0; k < page.size(); k++) {
            String line = page.get(k);
            if (line.equals("```java")) {
                inside = true;
                program.append("static void block").append(blocks).append("(java.util.List<Long> got) {\n");
                all.append("block").append(blocks).append("(got);\n");
                blocks++;
            } else if (inside && line.equals("```")) {
                inside = false;
                program.append("}\n");
            } else if (inside) {
                program.append(lineOfProgram(line, k + 1)).append('\n');
            }
        }
        Check.isTrue("README.md shows uses", blocks > 0 && !inside);
        return program.append("public static java.util.List<Long> answers() {\n")
            .append("java.util.List<Long> got = new java.util.ArrayList<>();\n")
            .append(all).append("return got;\n}\n}\n").toString();
    }

    private static String lineOfProgram(String line, int number) {
        Matcher m = ANSWERED.matcher(line);
        if (m.matches()) {
            CALLS.add("README.md, line " + number + ": " + m.group(1));
            DUE.add(Long.parseLong(m.group(3)));
            SHOWN.add(m.group(2));
            return "got.add((long) " + m.group(1) + ");";
        }
        // What stands in a loop answers often, so it tells no answer; all other calls do.
        Check.isTrue("README.md, line " + number + " tells its answer: " + line, !line.startsWith("x."));
        return line;
    }

    private static List<?> answersOf(String program) throws Exception {
        Path room = Files.createTempDirectory("readme");
        try {
            Path source = room.resolve("Shown.java");
            Files.writeString(source, program);
            JavaCompiler javac = ToolProvider.getSystemJavaCompiler();
            int failed = javac.run(null, System.out, System.out, "--release", "17",
                "-cp", System.getProperty("java.class.path"), "-d", room.toString(), source.toString());
            Check.same("README.md's uses compile", failed, 0);
            if (failed != 0) {
                return List.of();
            }
            try (URLClassLoader loader = new URLClassLoader(new URL[] {room.toUri().toURL()})) {
                return (List<?>) loader.loadClass("Shown").getMethod("answers").invoke(null);
            }
        } finally {
            remove(room);
        }
    }

    private static void remove(Path room) throws IOException {
        try (var files = Files.list(room)) {
            for (Path file : files.toList()) {
                Files.delete(file);
            }
        }
        Files.delete(room);
    }

    private static void eachCallIsShownAndTold(String page) {
        for (Method m : DriveTicks.class.getDeclaredMethods()) {
            if (Modifier.isPublic(m.getModifiers())) {
                Check.isTrue("README.md shows a use of " + m.getName(), SHOWN.contains(m.getName()));
                Check.isTrue("README.md has a row for " + m.getName(), rowOf(m).matcher(page).find());
            }
        }
    }

    /** Such as | `sets(what, v)` | for a call of two numbers, whatever their names are. */
    private static Pattern rowOf(Method m) {
        int numbers = m.getParameterCount();
        String names = numbers == 0 ? "" : "\\w+(, \\w+){" + (numbers - 1) + "}";
        return Pattern.compile("\n\\| `" + m.getName() + "\\(" + names + "\\)` \\|");
    }

    private static void constantsAreTold(String page) throws IllegalAccessException {
        for (Field f : DriveTicks.class.getFields()) {
            String row = "\n| `" + f.getName() + "` | " + f.getInt(null) + " |";
            Check.isTrue("README.md tells " + f.getName(), page.contains(row));
        }
    }

    private static void settingsAreTold(List<String> page) {
        TreeSet<Integer> told = new TreeSet<>();
        for (String row : page) {
            Matcher m = SETTING.matcher(row);
            if (m.matches()) {
                int what = Integer.parseInt(m.group(1));
                told.add(what);
                settingIsAsTold(row, what, Integer.parseInt(m.group(2)), Integer.parseInt(m.group(3)),
                    Integer.parseInt(m.group(4)));
            }
        }
        Check.sameList("settings that README.md tells", List.copyOf(told), List.of(0, 1, 2, 3, 4, 5, 6));
    }

    private static void settingIsAsTold(String row, int what, int least, int most, int first) {
        DriveTicks x = new DriveTicks();
        Check.same(row + " least", x.sets(what, least), first);
        Check.same(row + " most", x.sets(what, most), least);
        // By two as well, as a number next to N's bounds is BAD for being odd.
        for (int by = 1; by <= 2; by++) {
            Check.same(row + " below the least", x.sets(what, least - by), DriveTicks.BAD);
            Check.same(row + " above the most", x.sets(what, most + by), DriveTicks.BAD);
        }
    }
}
