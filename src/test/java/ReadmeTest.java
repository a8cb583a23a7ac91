import java.lang.reflect.Method;
import java.nio.file.Files;
import java.nio.file.Path;
import java.util.ArrayList;
import java.util.List;
import java.util.regex.Matcher;
import java.util.regex.Pattern;

/** What README.md tells of the class is so: its example's answers, the findings, the calls, the text. */
public final class ReadmeTest {
    private static final Checks T = new Checks();

    public static void main(String[] args) throws Exception {
        Path root = Path.of(args[0]).toAbsolutePath().normalize();
        for (int i = 0; i < 4; i++) {
            root = root.getParent();
        }
        String readme = Files.readString(root.resolve("README.md"));
        String document = Files.readString(Path.of(args[1]));
        example(readme);
        findings(readme, document);
        calls(readme, document);
        text(readme);
        tests(readme, root.resolve("src/test/java"));
        T.end("ReadmeTest");
    }

    /** Lines as "pane.tick(3); // 1: what it means". */
    private static void example(String readme) throws Exception {
        PaneThread pane = new PaneThread();
        Matcher line = Pattern.compile("(?m)^pane\\.(\\w+)\\((.*?)\\); +// (-?\\d+): .*$").matcher(readme);
        int calls = 0;
        while (line.find()) {
            T.due(line.group(), call(pane, line.group(1), line.group(2)), Integer.parseInt(line.group(3)));
            calls++;
        }
        int lines = readme.split("(?m)^pane\\.", -1).length - 1;
        T.holds("the example has calls, each with its answer", calls > 0 && calls == lines);
    }

    private static int call(PaneThread pane, String name, String arguments) throws Exception {
        List<Object> values = new ArrayList<>();
        for (String argument : arguments.isEmpty() ? new String[0] : arguments.split(", ")) {
            boolean isTruth = argument.equals("true") || argument.equals("false");
            values.add(isTruth ? (Object) Boolean.valueOf(argument) : Integer.decode(argument));
        }
        for (Method m : PaneThread.class.getMethods()) {
            if (m.getName().equals(name) && m.getDeclaringClass() == PaneThread.class) {
                return (int) m.invoke(pane, values.toArray());
            }
        }
        throw new IllegalArgumentException("no call " + name);
    }

    private static void findings(String readme, String document) {
        Matcher told = Pattern.compile("LOW BEYOND, (.*) SIZE\\.").matcher(document);
        T.holds("the document tells the findings", told.find());
        List<String> names = new ArrayList<>(List.of("BEYOND"));
        Matcher name = Pattern.compile("LOW - \\d (\\w+)").matcher(told.group());
        while (name.find()) {
            names.add(name.group(1));
        }
        T.due("findings", names.size(), 7);
        for (int i = 0; i < names.size(); i++) {
            String row = "\\| " + (-1000001 - i) + " \\| " + names.get(i) + ": [^|]* \\| " + i + " \\|";
            T.holds("a row for " + names.get(i), Pattern.compile(row).matcher(readme).find());
        }
    }

    private static void calls(String readme, String document) {
        Matcher line = Pattern.compile("(?m)^    public (?:int )?(\\w+)\\((.*)\\);$").matcher(document);
        int calls = 0;
        while (line.find()) {
            String call = line.group(1) + "(" + line.group(2).replaceAll("(int|boolean) ", "") + ")";
            T.holds("a row for " + call, readme.contains("| `" + call + "` | "));
            calls++;
        }
        T.due("calls and the constructor", calls, 43);
    }

    private static void text(String readme) {
        Matcher line = Pattern.compile("(?m)^    (.*;.*)$").matcher(readme);
        T.holds("there is a text", line.find());
        PaneThread x = new PaneThread();
        T.due("the text makes a program", Checks.programFrom(x, line.group(1)), 0);
        T.due("of so many deeds", x.programOf(0, 0), line.group(1).split(";").length);
        T.holds("there is no other", !line.find());
    }

    private static void tests(String readme, Path folder) throws Exception {
        try (var files = Files.newDirectoryStream(folder, "*Test.java")) {
            for (Path file : files) {
                String name = file.getFileName().toString().replace(".java", "");
                T.holds("a row for " + name, readme.contains("| `" + name + "` | "));
            }
        }
    }
}
