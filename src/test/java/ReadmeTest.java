import java.io.File;
import java.net.URL;
import java.net.URLClassLoader;
import java.nio.file.Files;
import java.nio.file.Path;
import java.util.Comparator;
import java.util.List;
import java.util.regex.Matcher;
import java.util.regex.Pattern;
import java.util.stream.Stream;
import javax.tools.ToolProvider;

/**
 * README.md's calls answer what README.md says: its Java is compiled as it stands there, but that a
 * line "w.call(..);  // 5, .." asks for the 5.
 */
public final class ReadmeTest {
    private static final Pattern BLOCK = Pattern.compile("(?s)```java\n(.*?)```");
    private static final Pattern CALL = Pattern.compile("(?m)^w\\.(\\w+)\\((.*)\\); +// (-?\\d+)\\b.*$");
    private static final int FEWEST_CALLS = 40;

    private static int calls = 0;
    private static int wrong = 0;

    public static void main(String[] args) throws Exception {
        Matcher block = BLOCK.matcher(Files.readString(Path.of("README.md")));
        StringBuilder java = new StringBuilder("public final class Readme {\npublic static void main(String[] args) {\n");
        while (block.find()) java.append(CALL.matcher(block.group(1)).replaceAll("ReadmeTest.due(\"$1($2)\", w.$1($2), $3);"));
        runJava(java.append("}\n}\n").toString());
        if (calls < FEWEST_CALLS) {
            wrong++;
            System.out.println("only " + calls + " calls were found");
        }
        System.out.println(calls + " calls of README.md, " + wrong + " answers not as told");
        if (wrong != 0) System.exit(1);
    }

    public static void due(String call, long got, long told) {
        calls++;
        if (got != told) {
            wrong++;
            System.out.println("README.md: " + call + " answers " + got + ", told is " + told);
        }
    }

    private static void runJava(String java) throws Exception {
        Path room = Files.createTempDirectory("readme");
        try {
            Path file = Files.writeString(room.resolve("Readme.java"), java);
            List<String> with = List.of("-d", room.toString(), "-cp", System.getProperty("java.class.path"), file.toString());
            if (ToolProvider.getSystemJavaCompiler().run(null, null, null, with.toArray(new String[0])) != 0) {
                wrong++;
                return;
            }
            try (URLClassLoader loader = new URLClassLoader(new URL[] {room.toUri().toURL()})) {
                loader.loadClass("Readme").getMethod("main", String[].class).invoke(null, (Object) new String[0]);
            }
        } finally {
            try (Stream<Path> left = Files.walk(room)) {
                left.sorted(Comparator.reverseOrder()).map(Path::toFile).forEach(File::delete);
            }
        }
    }
}
