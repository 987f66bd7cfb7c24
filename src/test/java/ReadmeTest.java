import java.io.IOException;
import java.net.URL;
import java.net.URLClassLoader;
import java.nio.file.Files;
import java.nio.file.Path;
import java.util.ArrayList;
import java.util.List;
import java.util.regex.Matcher;
import java.util.regex.Pattern;
import javax.tools.ToolProvider;

/** Runs the Java of README.md: each call there answers what stands behind it, and each call of the face is named. */
public final class ReadmeTest {
    private static final Pattern ANSWERED = Pattern.compile("(x\\.\\w+\\(.*\\)); +// (-?\\d+)(:.*)?");

    private static int wrong;

    public static void main(String[] args) throws Exception {
        String text = Files.readString(Path.of("README.md"));
        int answers = run(blocks(text));
        namesAllCalls(text);
        System.out.println("ReadmeTest: " + answers + " answers, " + wrong + " of them wrong");
        System.exit(wrong == 0 && answers > 0 ? 0 : 1);
    }

    private static List<String> blocks(String text) {
        List<String> blocks = new ArrayList<>();
        Matcher block = Pattern.compile("```java\n(.*?)```", Pattern.DOTALL).matcher(text);
        while (block.find()) {
            blocks.add(block.group(1));
        }
        return blocks;
    }

    /** Makes one program of all blocks, whose calls tell due() what they answered. */
    private static int run(List<String> blocks) throws Exception {
        StringBuilder methods = new StringBuilder();
        StringBuilder main = new StringBuilder();
        int answers = 0;
        for (String block : blocks) {
            if (block.startsWith("static")) {
                methods.append(block);
                continue;
            }
            main.append("{\n");
            for (String line : block.split("\n")) {
                Matcher answered = ANSWERED.matcher(line);
                if (answered.matches()) {
                    answers++;
                    String call = answered.group(1);
                    main.append("due(\"" + call + "\", " + call + ", " + answered.group(2) + ");\n");
                } else {
                    main.append(line).append('\n');
                }
            }
            main.append("}\n");
        }
        String due = "static int wrong; static void due(String call, long got, long want) { if (got != want) { wrong++; "
            + "System.out.println(\"README.md: \" + call + \" answered \" + got + \", due is \" + want); } }\n";
        wrong += runProgram("public final class Readme {\n" + due + methods
            + "public static int wrongAnswers() {\n" + main + "return wrong;\n}\n}\n");
        return answers;
    }

    private static int runProgram(String program) throws Exception {
        Path folder = Files.createTempDirectory("readme");
        try {
            Path source = folder.resolve("Readme.java");
            Files.writeString(source, program);
            String classPath = System.getProperty("java.class.path");
            int exit = ToolProvider.getSystemJavaCompiler().run(null, null, null, "-cp", classPath, "-d",
                folder.toString(), source.toString());
            if (exit != 0) {
                System.out.println("README.md: its Java does not compile");
                return 1;
            }
            try (URLClassLoader loader = new URLClassLoader(new URL[] {folder.toUri().toURL()})) {
                return (Integer) loader.loadClass("Readme").getMethod("wrongAnswers").invoke(null);
            }
        } finally {
            empty(folder);
        }
    }

    private static void empty(Path folder) throws IOException {
        Files.deleteIfExists(folder.resolve("Readme.java"));
        Files.deleteIfExists(folder.resolve("Readme.class"));
        Files.deleteIfExists(folder);
    }

    private static void namesAllCalls(String text) {
        for (java.lang.reflect.Method method : KeyHouses.class.getDeclaredMethods()) {
            boolean open = java.lang.reflect.Modifier.isPublic(method.getModifiers());
            if (open && !Pattern.compile("`" + method.getName() + "[`(]").matcher(text).find()) {
                wrong++;
                System.out.println("README.md does not name " + method.getName());
            }
        }
    }
}
