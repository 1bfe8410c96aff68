import java.io.File;
import java.io.IOException;
import java.lang.reflect.Method;
import java.lang.reflect.Modifier;
import java.nio.file.Files;
import java.nio.file.Path;
import java.util.ArrayList;
import java.util.List;
import java.util.regex.Matcher;
import java.util.regex.Pattern;

/** What README.md says of the class's use and of running its tests holds as it is written there. */
public final class ReadmeTest {
    private static final Checks T = new Checks();

    private final String readme = Files.readString(Path.of("README.md"));
    private final Path work = Files.createTempDirectory("readme");

    private ReadmeTest() throws IOException { }

    /** What stands between ``` and ```, of this sort, in order. */
    private List<String> blocks(String sort) {
        List<String> found = new ArrayList<>();
        Matcher m = Pattern.compile("```" + sort + "\n(.*?)```", Pattern.DOTALL).matcher(readme);
        while (m.find()) found.add(m.group(1));
        return found;
    }

    /** What a command prints; that it ends with exit code 0 is due. */
    private String run(String... command) throws Exception {
        File printed = Files.createTempFile(work, "printed", "").toFile();
        Process p = new ProcessBuilder(command).redirectErrorStream(true).redirectOutput(printed).start();
        int code = p.waitFor();
        String text = Files.readString(printed.toPath());
        if (code != 0) System.out.println(text);
        T.due("exit code of " + command[0] + " " + command[command.length - 1], code, 0);
        return text;
    }

    /** The example is compiled as it stands there, and what it prints held against its comments. */
    private void example() throws Exception {
        List<String> code = blocks("java");
        T.due("examples", code.size(), 1);
        Path file = work.resolve("Example.java");
        Files.writeString(file, code.get(0));
        run("javac", "-d", work.toString(), "src/main/java/BowHouse.java", file.toString());
        String[] printed = run("java", "-cp", work.toString(), "Example").split("\n");
        Matcher m = Pattern.compile("System\\.out\\.println\\((.*)\\);\\s*// (-?\\d+|true|false)(:.*)?\n").matcher(code.get(0));
        int line = 0;
        while (m.find()) {
            String got = line < printed.length ? printed[line] : "nothing";
            T.due(m.group(1) + " prints " + got + ", not " + m.group(2), got.equals(m.group(2)), true);
            line++;
        }
        T.due("every line has its comment", line, code.get(0).split("println").length - 1);
        T.due("lines that are printed", printed.length, line);
    }

    /** The commands are run as they stand there; .ci/run, which runs this test, only has to be there. */
    private void commands() throws Exception {
        List<String> shells = blocks("sh");
        T.due("blocks of commands", shells.size(), 2);
        T.due("the first is .ci/run", shells.get(0).trim().equals(".ci/run"), true);
        T.due(".ci/run can be run", Files.isExecutable(Path.of(".ci/run")), true);
        String printed = run("bash", "-ec", shells.get(1) + "\nrm -r \"$out\"\n");
        T.due("the test by itself tells its answers: " + printed.trim(), printed.contains("0 not as due"), true);
    }

    private void calls() {
        for (Method m : BowHouse.class.getDeclaredMethods()) {
            if (Modifier.isPublic(m.getModifiers())) {
                T.due("README.md names " + m.getName(), readme.contains("`" + m.getName() + "`"), true);
            }
        }
    }

    private void files() throws Exception {
        Matcher m = Pattern.compile("`((src|\\.\\.|\\.ci)/[^` ]*)`").matcher(readme);
        int named = 0;
        while (m.find()) {
            named++;
            T.due("there is " + m.group(1), Files.exists(Path.of(m.group(1))), true);
        }
        T.due("files are named", named > 10, true);
        try (var tests = Files.newDirectoryStream(Path.of("src/test/java"))) {
            for (Path test : tests) T.due("README.md names " + test, readme.contains("`src/test/java/" + test.getFileName() + "`"), true);
        }
    }

    /** What it says of that which can't be, on a new object, where nothing can. */
    private void whatCantBe() {
        BowHouse x = new BowHouse();
        T.due("NONE", BowHouse.NONE, -1);
        T.due("read(0, false)", x.read(0, false), -1);
        T.due("winds(0, 0, false)", x.winds(0, 0, false), -100);
        T.due("creak(0, false)", x.creak(0, false), -1000);
        T.due("lies(0)", x.lies(0), -2);
        T.due("fits(0)", x.fits(0), 0);
        T.due("undo()", x.undo(), false);
        T.due("redo()", x.redo(), false);
        T.due("untell(0)", x.untell(0), false);
    }

    private void clear() throws IOException {
        try (var all = Files.newDirectoryStream(work)) {
            for (Path p : all) Files.delete(p);
        }
        Files.delete(work);
    }

    public static void main(String[] args) throws Exception {
        ReadmeTest t = new ReadmeTest();
        t.example();
        t.commands();
        t.calls();
        t.files();
        t.whatCantBe();
        t.clear();
        T.close();
    }
}
