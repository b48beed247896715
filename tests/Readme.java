import java.io.File;
import java.nio.file.Files;
import java.nio.file.Path;
import java.util.ArrayList;
import java.util.List;
import java.util.Set;
import java.util.TreeSet;
import java.lang.reflect.Method;
import java.lang.reflect.Modifier;
import java.net.URL;
import java.net.URLClassLoader;
import java.util.regex.Matcher;
import java.util.regex.Pattern;
import javax.tools.ToolProvider;

/** Each call that README.md shows answers as README.md says, and its command is the one that runs the tests. */
public final class Readme {
    static final Pattern CALL = Pattern.compile("(x\\.(\\w+)\\(.*\\));\\s*// (-?\\d+)(:.*)?");

    static int wrong = 0;

    static void must(boolean holds, String what) {
        if (holds) return;
        wrong++;
        System.out.println("README.md: " + what);
    }

    public static void main(String[] args) throws Exception {
        String page = Files.readString(Path.of("README.md"));
        command(page);
        calls(page);
        System.out.println(wrong == 0 ? "README.md is right" : wrong + " places of README.md are not right");
        if (wrong != 0) System.exit(1);
    }

    static List<String> blocks(String page, String language) {
        List<String> blocks = new ArrayList<>();
        Matcher block = Pattern.compile("(?ms)^```" + language + "\n(.*?)^```$").matcher(page);
        while (block.find()) blocks.add(block.group(1));
        return blocks;
    }

    /** .ci/run tells by tests.run which file it is. */
    static void command(String page) throws Exception {
        List<String> commands = blocks(page, "sh");
        must(commands.size() == 1, "one command for the tests");
        if (commands.isEmpty()) return;
        String[] words = commands.get(0).trim().split(" ");
        must(words.length == 2 && words[0].equals("bash"), "the command " + commands.get(0));
        Path named = Path.of(words[words.length - 1]);
        String runs = System.getProperty("tests.run", "");
        must(Files.isExecutable(named), named + " can't be run");
        must(!runs.isEmpty() && Files.isSameFile(named, Path.of(runs)), "the tests are run by " + runs + ", not by " + named);
        for (File test : new File("tests").listFiles()) {
            if (test.isFile()) must(page.contains("`tests/" + test.getName() + "`"), "nothing is said of " + test);
        }
    }

    /** All blocks become one program, each call an asking for its answer. */
    static void calls(String page) throws Exception {
        Set<String> shown = new TreeSet<>();
        StringBuilder program = new StringBuilder("public final class Shown {\n  static int wrong = 0;\n"
            + "  static void due(String call, long got, long want) {\n    if (got == want) return;\n    wrong++;\n"
            + "    System.out.println(\"README.md: \" + call + \" answers \" + got + \", not \" + want);\n  }\n"
            + "  public static int run() {\n");
        for (String block : blocks(page, "java")) {
            program.append("    {\n");
            for (String line : block.split("\n")) {
                Matcher call = CALL.matcher(line);
                if (call.matches()) {
                    shown.add(call.group(2));
                    program.append("due(\"").append(call.group(1)).append("\", ").append(call.group(1)).append(", ").append(call.group(3))
                        .append("L);\n");
                } else {
                    must(!line.startsWith("x."), "no answer is told of " + line);
                    program.append(line).append('\n');
                }
            }
            program.append("    }\n");
        }
        program.append("    return wrong;\n  }\n}\n");
        for (Method m : LifeNoes.class.getDeclaredMethods()) {
            if (Modifier.isPublic(m.getModifiers())) must(shown.contains(m.getName()), m.getName() + " isn't shown");
        }
        must(shown.size() == 42, shown.size() + " calls are shown");
        Path folder = Files.createDirectories(Path.of("build/readme"));
        Path file = Files.writeString(folder.resolve("Shown.java"), program);
        int compiled = ToolProvider.getSystemJavaCompiler().run(null, null, null, "-cp", System.getProperty("java.class.path"), "-d",
            folder.toString(), file.toString());
        must(compiled == 0, "what it shows can't be compiled");
        if (compiled != 0) return;
        try (URLClassLoader loader = new URLClassLoader(new URL[] {folder.toUri().toURL()}, Readme.class.getClassLoader())) {
            wrong += (int) loader.loadClass("Shown").getMethod("run").invoke(null);
        }
    }
}
