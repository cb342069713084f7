import java.io.File;
import java.io.IOException;
import java.lang.reflect.InvocationTargetException;
import java.lang.reflect.Method;
import java.nio.file.Files;
import java.nio.file.Path;
import java.util.ArrayList;
import java.util.Arrays;
import java.util.List;
import java.util.regex.Matcher;
import java.util.regex.Pattern;

/**
 * Does what README.md shows: runs its program, makes each call of its rows, and compares what comes of them with what
 * the page says. It also looks whether the page names each test, and no test that is not there.
 */
public final class ReadmeTest {
    private static final Path PAGE = Path.of("README.md");
    private static final Path TESTS = Path.of("src/test/java");
    private static final Path ROOM = Path.of("build/readme");
    private static final String FENCE = "```";
    private static final String NEW_HOUSE = "LendHouse house = new LendHouse();";
    private static final Pattern CLASS = Pattern.compile("public final class (\\w+) \\{");
    private static final Pattern CALL = Pattern.compile("house\\.(\\w+)\\(([^)]*)\\); +// ([^:]+)(: .+)?");
    private static final Pattern TEST = Pattern.compile("`(\\w+Test)`");

    private final List<String> lines;
    private int wrong;
    private int programs;
    private int calls;
    private LendHouse house;

    private ReadmeTest(List<String> lines) {
        this.lines = lines;
    }

    private void complain(String words) {
        wrong++;
        System.out.println("README.md: " + words);
    }

    private void due(String what, String want, String got) {
        if (!got.equals(want)) {
            complain(what + " answered " + got + ", due is " + want);
        }
    }

    // ---- the blocks of the page

    /** Where the next block of a kind begins, from a line on: its first line behind the fence; the end without one. */
    private int beginOf(String kind, int from) {
        int at = from;
        while (at < lines.size() && !lines.get(at).equals(FENCE + kind)) {
            at++;
        }
        return Math.min(lines.size(), at + 1);
    }

    private List<String> blockAt(int begin) {
        int at = begin;
        while (at < lines.size() && !lines.get(at).equals(FENCE)) {
            at++;
        }
        return lines.subList(begin, at);
    }

    private void lookAtBlocks() throws IOException, InterruptedException {
        for (int at = beginOf("java", 0); at < lines.size(); at = beginOf("java", at)) {
            List<String> block = blockAt(at);
            Matcher head = CLASS.matcher(block.isEmpty() ? "" : block.get(0));
            if (head.matches()) {
                runProgram(head.group(1), block, blockAt(beginOf("text", at)));
            } else {
                house = null;
                for (String line : block) {
                    makeCall(line);
                }
            }
            at += block.size();
        }
        if (programs == 0 || calls == 0) {
            complain("no example was found");
        }
    }

    // ---- a program

    private static String tool(String name) {
        return Path.of(System.getProperty("java.home"), "bin", name).toString();
    }

    private static List<String> outputOf(String... command) throws IOException, InterruptedException {
        Process process = new ProcessBuilder(command).redirectError(ProcessBuilder.Redirect.INHERIT).start();
        List<String> output = new ArrayList<>(Arrays.asList(new String(process.getInputStream().readAllBytes())
                .split("\\R")));
        output.removeIf(String::isEmpty);
        int code = process.waitFor();
        if (code != 0) {
            output.add("exit code " + code);
        }
        return output;
    }

    private void runProgram(String name, List<String> program, List<String> printed)
            throws IOException, InterruptedException {
        programs++;
        Files.createDirectories(ROOM);
        Path file = ROOM.resolve(name + ".java");
        Files.write(file, program);
        List<String> said = outputOf(tool("javac"), "-d", ROOM.toString(), "src/main/java/LendHouse.java",
                file.toString());
        due("javac of " + name, "[]", said.toString());
        due(name, String.join("\n", printed), String.join("\n",
                outputOf(tool("java"), "-cp", ROOM.toString(), name)));
    }

    // ---- rows of calls

    private void makeCall(String line) {
        if (line.equals(NEW_HOUSE)) {
            house = new LendHouse();
            return;
        }
        Matcher call = CALL.matcher(line);
        if (house == null || !call.matches()) {
            complain("this line is no call with its answer: " + line);
            return;
        }
        calls++;
        due(line, call.group(3), answerOf(call.group(1), call.group(2)));
    }

    private String answerOf(String name, String written) {
        String[] arguments = written.isEmpty() ? new String[0] : written.split(", ");
        for (Method method : LendHouse.class.getMethods()) {
            if (method.getDeclaringClass() == LendHouse.class && method.getName().equals(name)
                    && method.getParameterCount() == arguments.length) {
                return answerOf(method, arguments);
            }
        }
        return "that it has no such call";
    }

    private String answerOf(Method method, String[] written) {
        Object[] arguments = new Object[written.length];
        for (int i = 0; i < written.length; i++) {
            arguments[i] = method.getParameterTypes()[i] == boolean.class ? (Object) Boolean.valueOf(written[i])
                    : (Object) Integer.decode(written[i]);
        }
        try {
            Object answer = method.invoke(house, arguments);
            return method.getReturnType() == void.class ? "-" : String.valueOf(answer);
        } catch (InvocationTargetException e) {
            return e.getCause().getClass().getSimpleName();
        } catch (IllegalAccessException e) {
            return e.toString();
        }
    }

    // ---- the tests that the page names

    private void lookAtTests() {
        List<String> named = new ArrayList<>();
        Matcher names = TEST.matcher(String.join("\n", lines));
        while (names.find()) {
            named.add(names.group(1));
        }
        for (String name : named) {
            if (!Files.exists(TESTS.resolve(name + ".java"))) {
                complain("there is no " + name);
            }
        }
        String[] files = TESTS.toFile().list();
        for (String file : files == null ? new String[0] : files) {
            String name = file.replace(".java", "");
            if (name.endsWith("Test") && !named.contains(name)) {
                complain(name + " is not named");
            }
        }
        if (!new File(".ci/run").canExecute()) {
            complain(".ci/run cannot be run");
        }
    }

    public static void main(String[] args) throws IOException, InterruptedException {
        ReadmeTest test = new ReadmeTest(Files.readAllLines(PAGE));
        test.lookAtBlocks();
        test.lookAtTests();
        System.out.println(test.wrong == 0 ? "README.md says what is so" : test.wrong + " things are not so");
        if (test.wrong != 0) {
            System.exit(1);
        }
    }
}
