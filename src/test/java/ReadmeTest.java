import java.io.IOException;
import java.lang.reflect.Method;
import java.lang.reflect.Modifier;
import java.nio.file.FileVisitOption;
import java.nio.file.Files;
import java.nio.file.Path;
import java.util.ArrayList;
import java.util.Comparator;
import java.util.List;
import java.util.regex.Matcher;
import java.util.regex.Pattern;
import java.util.stream.Stream;

/** Follows README.md word for word, in a copy of the sources. Started in the top directory, as .ci/run does. */
public final class ReadmeTest {
    private static final Due DUE = new Due();

    private record Block(String language, String body) { }

    public static void main(String[] args) throws Exception {
        String readme = Files.readString(Path.of("README.md"));
        List<Block> blocks = blocksOf(readme);
        namesEveryCall(readme);
        namesEveryTest(readme);
        showsTheExample(blocks);
        commandsPrintWhatItSays(blocks);
        DUE.end("ReadmeTest");
    }

    private static void isTrue(String what, boolean holds) {
        DUE.is(what, holds ? 1 : 0, 1);
    }

    private static List<Block> blocksOf(String readme) {
        List<Block> blocks = new ArrayList<>();
        Matcher m = Pattern.compile("(?ms)^```(\\w+)\n(.*?)^```$").matcher(readme);
        while (m.find()) {
            blocks.add(new Block(m.group(1), m.group(2)));
        }
        return blocks;
    }

    private static void namesEveryCall(String readme) {
        for (Method m : CheeseHill.class.getDeclaredMethods()) {
            if (Modifier.isPublic(m.getModifiers())) {
                String more = m.getParameterCount() == 0 ? "" : "\\w+(, \\w+){" + (m.getParameterCount() - 1) + "}";
                isTrue("README: the call " + m.getName(),
                    Pattern.compile("(?m)^\\| `" + m.getName() + "\\(" + more + "\\)` \\|").matcher(readme).find());
            }
        }
    }

    private static void namesEveryTest(String readme) throws IOException {
        try (Stream<Path> tests = Files.list(Path.of("src/test/java"))) {
            for (Path test : tests.toList()) {
                String name = test.getFileName().toString().replace(".java", "");
                isTrue("README: the test " + name, !name.endsWith("Test") || readme.contains("`" + name + "`"));
            }
        }
    }

    private static void showsTheExample(List<Block> blocks) throws IOException {
        String example = Files.readString(Path.of("src/example/java/Afternoon.java"));
        isTrue("README: the example as it stands", blocks.contains(new Block("java", example)));
    }

    /** Where what is printed stands behind commands, they are given, each time in a copy of its own. */
    private static void commandsPrintWhatItSays(List<Block> blocks) throws Exception {
        int followed = 0;
        for (int k = 0; k + 1 < blocks.size(); k++) {
            if (blocks.get(k).language().equals("sh") && blocks.get(k + 1).language().equals("text")) {
                String printed = printedBy(blocks.get(k).body());
                isTrue("README: " + blocks.get(k).body() + "printed:\n" + printed, printed.equals(blocks.get(k + 1).body()));
                followed++;
            }
        }
        DUE.is("README: commands with what they print", followed, 2);
    }

    private static String printedBy(String commands) throws Exception {
        Path copy = Files.createTempDirectory("readme");
        try {
            copyTo(copy);
            Process p = new ProcessBuilder("sh", "-e", "-c", commands)
                .directory(copy.toFile()).redirectErrorStream(true).start();
            String printed = new String(p.getInputStream().readAllBytes());
            return p.waitFor() == 0 ? printed : printed + "(exit code not 0)\n";
        } finally {
            remove(copy);
        }
    }

    private static void copyTo(Path copy) throws IOException {
        try (Stream<Path> all = Files.walk(Path.of("src"), FileVisitOption.FOLLOW_LINKS)) {
            for (Path from : all.toList()) {
                Files.copy(from, copy.resolve(from.toString()));
            }
        }
    }

    private static void remove(Path copy) throws IOException {
        try (Stream<Path> all = Files.walk(copy)) {
            for (Path path : all.sorted(Comparator.reverseOrder()).toList()) {
                Files.delete(path);
            }
        }
    }
}
