import com.sun.source.tree.CompilationUnitTree;
import com.sun.source.tree.ExpressionTree;
import com.sun.source.tree.IdentifierTree;
import com.sun.source.tree.MemberSelectTree;
import com.sun.source.tree.MethodInvocationTree;
import com.sun.source.tree.MethodTree;
import com.sun.source.util.JavacTask;
import com.sun.source.util.TreeScanner;
import java.io.File;
import java.io.IOException;
import java.lang.reflect.Constructor;
import java.lang.reflect.Field;
import java.lang.reflect.Method;
import java.lang.reflect.Modifier;
import java.nio.file.Files;
import java.nio.file.Path;
import java.util.ArrayList;
import java.util.Arrays;
import java.util.List;
import java.util.Map;
import java.util.Set;
import java.util.TreeMap;
import java.util.TreeSet;
import java.util.regex.Matcher;
import java.util.regex.Pattern;
import javax.tools.JavaCompiler;
import javax.tools.StandardJavaFileManager;
import javax.tools.ToolProvider;

/** What of LANGUAGE.md and of the document's face can be seen in the class and in its text. */
public final class LanguageTest {
    private static final String[] FACE = {
        "int sets(int,int)", "int leg(int,int,int)", "int anew()", "int draw(int)", "int plan(int)",
        "int of(int,int)", "int at(int,int,int)", "int run(int,int)", "int seen(int)", "int told(int)",
        "int both()", "int off(int)", "int dies(int)", "int event(int,int)", "int events()", "int shift(int)",
        "int wish(int,int,int)", "int unwish(int)", "int wished(int,int)", "int steps(int)", "int settles(int)",
        "int tunes(int)", "int state(int,int)", "int memory(int,int)", "int over(int,int)", "int type(int)",
        "int clear()", "int reads()", "int count(int)", "long digest()"};
    private static final String[] RULED_OUT = {"throw", "try", "catch", "finally", "synchronized", "assert",
        "import", "package", "protected", "native", "volatile", "transient", "double", "float", "var"};

    public static void main(String[] args) throws IOException {
        faceIsTheDocuments();
        nothingElseIsVisible();
        classesInside();
        textOfTheClass();
        callsAreNotDeep();
        Check.finish("LanguageTest");
    }

    private static String told(Method m) {
        StringBuilder s = new StringBuilder();
        s.append(m.getReturnType().getName()).append(' ').append(m.getName()).append('(');
        for (int k = 0; k < m.getParameterCount(); k++) {
            s.append(k == 0 ? "" : ",").append(m.getParameterTypes()[k].getName());
        }
        return s.append(')').toString();
    }

    private static void faceIsTheDocuments() {
        List<String> found = new ArrayList<>();
        for (Method m : DriveTicks.class.getDeclaredMethods()) {
            if (!Modifier.isPrivate(m.getModifiers())) {
                Check.isTrue("public, not static: " + m, m.getModifiers() == Modifier.PUBLIC);
                found.add(told(m));
            }
        }
        Check.sameList("methods of the face", new ArrayList<>(new TreeSet<>(found)),
            new ArrayList<>(new TreeSet<>(Arrays.asList(FACE))));
        Check.same("as many methods", found.size(), FACE.length);
        Constructor<?>[] made = DriveTicks.class.getDeclaredConstructors();
        Check.same("one constructor", made.length, 1);
        Check.isTrue("it is public", Modifier.isPublic(made[0].getModifiers()) && made[0].getParameterCount() == 0);
        Check.same("public final", DriveTicks.class.getModifiers(), Modifier.PUBLIC | Modifier.FINAL);
    }

    private static void nothingElseIsVisible() {
        List<String> visible = new ArrayList<>();
        for (Field f : DriveTicks.class.getDeclaredFields()) {
            if (!Modifier.isPrivate(f.getModifiers())) {
                visible.add(f.getName());
            }
            if (Modifier.isStatic(f.getModifiers())) {
                Check.isTrue("static is final: " + f, Modifier.isFinal(f.getModifiers()));
            }
        }
        Check.sameList("visible fields", new ArrayList<>(new TreeSet<>(visible)),
            Arrays.asList("BAD", "FULL", "NO", "NONE"));
        TreeSet<String> open = new TreeSet<>();
        for (Method m : DriveTicks.class.getDeclaredMethods()) {
            if (Modifier.isPublic(m.getModifiers())) {
                open.add(m.getName());
            }
        }
        List<Class<?>> all = new ArrayList<>(Arrays.asList(DriveTicks.class.getDeclaredClasses()));
        all.add(DriveTicks.class);
        for (Class<?> c : all) {
            for (Method m : c.getDeclaredMethods()) {
                boolean hidden = c != DriveTicks.class || Modifier.isPrivate(m.getModifiers());
                Check.isTrue("no name of the face: " + m, !hidden || !open.contains(m.getName()));
                Check.isTrue("seven parameters at most: " + m, m.getParameterCount() <= 7);
            }
        }
    }

    private static void classesInside() {
        Class<?>[] inside = DriveTicks.class.getDeclaredClasses();
        Check.isTrue("some twelve classes", inside.length <= 11);
        for (Class<?> c : inside) {
            Check.isTrue("static: " + c, Modifier.isStatic(c.getModifiers()));
            Check.same("no class deeper: " + c, c.getDeclaredClasses().length, 0);
            int fields = 0;
            for (Field f : c.getDeclaredFields()) {
                fields += Modifier.isStatic(f.getModifiers()) ? 0 : 1;
            }
            Check.isTrue("some twenty fields: " + c, fields <= 20);
        }
    }

    private static void textOfTheClass() throws IOException {
        String text = Files.readString(Path.of("src/main/java/DriveTicks.java"));
        for (int k = 0; k < text.length(); k++) {
            if (text.charAt(k) > 126) {
                Check.isTrue("plain signs only, at " + k, false);
            }
        }
        String code = text.replaceAll("(?s)/\\*.*?\\*/", "").replaceAll("//[^\n]*", "");
        for (String word : RULED_OUT) {
            Matcher m = Pattern.compile("\\b" + word + "\\b").matcher(code);
            Check.isTrue("no '" + word + "'", !m.find());
        }
        Check.isTrue("no lambda", !code.contains("->"));
        Check.isTrue("no method reference", !code.contains("::"));
        Check.isTrue("none of the Exact ones", !code.contains("Exact"));
        methodsAreShort(code);
    }

    private static void methodsAreShort(String code) {
        String[] lines = code.split("\n");
        int first = -1;
        int indent = 0;
        for (int k = 0; k < lines.length; k++) {
            int depth = lines[k].length() - lines[k].stripLeading().length();
            boolean begins = lines[k].endsWith(") {") && (depth == 4 || depth == 8)
                && lines[k].strip().matches("(public|private|static|void|int|long|boolean|Plan|Runs|Table|Drive|Text)\\b.*");
            if (first < 0 && begins) {
                first = k;
                indent = depth;
            } else if (first >= 0 && depth == indent && lines[k].strip().equals("}")) {
                Check.isTrue("short: " + lines[first].strip(), k - first < 60);
                first = -1;
            }
        }
    }

    /** Rules 8 and 11: no recursion, and calls, the library's own among them, go at most eight deep. */
    private static void callsAreNotDeep() throws IOException {
        Map<String, Set<String>> calls = callsByName();
        Check.isTrue("methods are found", calls.containsKey("digest") && calls.size() > FACE.length);
        int deepest = 0;
        for (String name : calls.keySet()) {
            deepest = Math.max(deepest, depthOf(name, calls, new ArrayList<>()));
        }
        Check.isTrue("eight deep at most: " + deepest, deepest > 1 && deepest <= 8);
    }

    private static int depthOf(String name, Map<String, Set<String>> calls, List<String> open) {
        boolean again = open.contains(name);
        Check.isTrue("no recursion: " + open + " " + name, !again);
        if (again) {
            return 0;
        }
        open.add(name);
        int below = 0;
        for (String called : calls.getOrDefault(name, Set.of())) {
            below = Math.max(below, depthOf(called, calls, open));
        }
        open.remove(open.size() - 1);
        return below + 1;
    }

    /** Methods of like name count as one: that can but make what is told deeper than it is. */
    private static Map<String, Set<String>> callsByName() throws IOException {
        Map<String, Set<String>> calls = new TreeMap<>();
        JavaCompiler javac = ToolProvider.getSystemJavaCompiler();
        try (StandardJavaFileManager files = javac.getStandardFileManager(null, null, null)) {
            JavacTask task = (JavacTask) javac.getTask(null, files, null, null, null,
                files.getJavaFileObjects(new File("src/main/java/DriveTicks.java")));
            for (CompilationUnitTree unit : task.parse()) {
                new CallCollector(calls).scan(unit, "");
            }
        }
        return calls;
    }

    private static final class CallCollector extends TreeScanner<Void, String> {
        private final Map<String, Set<String>> calls;

        CallCollector(Map<String, Set<String>> calls) {
            this.calls = calls;
        }

        @Override
        public Void visitMethod(MethodTree method, String within) {
            return super.visitMethod(method, method.getName().toString());
        }

        @Override
        public Void visitMethodInvocation(MethodInvocationTree call, String within) {
            ExpressionTree called = call.getMethodSelect();
            String name = called instanceof MemberSelectTree m ? m.getIdentifier().toString()
                : ((IdentifierTree) called).getName().toString();
            calls.computeIfAbsent(within, w -> new TreeSet<>()).add(name);
            return super.visitMethodInvocation(call, within);
        }
    }
}
