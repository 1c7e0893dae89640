import java.io.File;
import java.io.IOException;
import java.lang.reflect.Method;
import java.lang.reflect.Modifier;
import java.nio.charset.StandardCharsets;
import java.nio.file.Files;
import java.nio.file.Path;
import java.util.ArrayList;
import java.util.List;
import java.util.regex.Matcher;
import java.util.regex.Pattern;

/** What README.md says can be done as it is written: its commands, its example, and that it names every call and test. */
public final class ReadmeTest {
    private static final Due DUE = new Due("ReadmeTest");

    public static void main(String[] args) throws IOException, InterruptedException {
        String readme = Files.readString(Path.of("README.md"));
        Path build = Files.createTempDirectory("readme");
        commands(readme, build);
        inShort(readme, build);
        names(readme);
        delete(build.toFile());
        DUE.end();
    }

    private static List<String> blocks(String readme, String language) {
        List<String> found = new ArrayList<>();
        Matcher m = Pattern.compile("```" + language + "\n(.*?)```", Pattern.DOTALL).matcher(readme);
        while (m.find()) {
            found.add(m.group(1));
        }
        return found;
    }

    /** The folder build is another one here; the script itself is left out: it is what runs this test. */
    private static void commands(String readme, Path build) throws IOException, InterruptedException {
        int runs = 0;
        for (String block : blocks(readme, "sh")) {
            for (String command : block.split("\n")) {
                if (command.equals(".ci/run")) {
                    DUE.is("there is .ci/run", new File(command).canExecute() ? 1 : 0, 1);
                } else {
                    String printed = printed(command.replace(" build", " " + build.resolve("build")));
                    runs++;
                    if (command.endsWith(" Example")) {
                        DUE.is("the example's output", printed.equals(blocks(readme, "text").get(0)) ? 1 : 0, 1);
                    }
                }
            }
        }
        DUE.is("commands", runs, 6);
    }

    private static String printed(String command) throws IOException, InterruptedException {
        Process p = new ProcessBuilder("sh", "-c", command).redirectErrorStream(true).start();
        String out = new String(p.getInputStream().readAllBytes(), StandardCharsets.UTF_8);
        DUE.is(command, p.waitFor(), 0);
        return out;
    }

    private static void inShort(String readme, Path build) throws IOException, InterruptedException {
        String main = "public final class InShort {\n    public static void main(String[] args) {\n"
            + blocks(readme, "java").get(0)
            + "System.out.println(one + \" \" + court.of(one, 5) + \" \" + court.of(one, 11));\n    }\n}\n";
        Path file = build.resolve("InShort.java");
        Files.writeString(file, main);
        printed("javac -d " + build + " src/main/java/SkinOfTeeth.java " + file);
        DUE.is("in short", printed("java -cp " + build + " InShort").trim().equals("0 6 69") ? 1 : 0, 1);
    }

    private static void names(String readme) {
        for (Method m : SkinOfTeeth.class.getDeclaredMethods()) {
            if (Modifier.isPublic(m.getModifiers())) {
                DUE.is("names " + m.getName(), readme.contains("`" + m.getName() + "(") ? 1 : 0, 1);
            }
        }
        for (String file : new File("src/test/java").list()) {
            if (file.endsWith("Test.java") && !file.endsWith("EdgesTest.java")) {
                String name = file.replace(".java", "");
                DUE.is("names " + name, readme.contains("`" + name + "`") ? 1 : 0, 1);
            }
        }
    }

    private static void delete(File file) {
        File[] inside = file.listFiles();
        for (File f : inside == null ? new File[0] : inside) {
            delete(f);
        }
        file.delete();
    }
}
