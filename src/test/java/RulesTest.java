import java.lang.management.ManagementFactory;
import java.lang.reflect.Constructor;
import java.lang.reflect.Field;
import java.lang.reflect.Method;
import java.lang.reflect.Modifier;
import java.nio.file.Files;
import java.nio.file.Path;
import java.util.ArrayList;
import java.util.Collections;
import java.util.HashSet;
import java.util.List;
import java.util.Set;
import java.util.regex.Matcher;
import java.util.regex.Pattern;

/** The document's face, and those rules of LANGUAGE.md that can be seen without reading the code as a person. */
public final class RulesTest {
    private static final Checks T = new Checks();

    public static void main(String[] args) throws Exception {
        String source = Files.readString(Path.of(args[0]));
        String document = Files.readString(Path.of(args[1]));
        face(document);
        members();
        words(source);
        lengths(source);
        room();
        T.end("RulesTest");
    }

    private static void face(String document) {
        Matcher block = Pattern.compile("public final class PaneThread \\{(.*?)\\n\\}", Pattern.DOTALL).matcher(document);
        T.holds("the document has a face", block.find());
        List<String> due = new ArrayList<>();
        Matcher line = Pattern.compile("public ([^;]*);").matcher(block.group(1));
        while (line.find()) {
            due.add(line.group(1).replaceAll("(int|boolean) \\w+(?=[,)])", "$1"));
        }
        List<String> got = new ArrayList<>();
        for (Constructor<?> c : PaneThread.class.getDeclaredConstructors()) {
            got.add("PaneThread(" + types(c.getParameterTypes()) + ")");
            T.holds("the constructor is public", Modifier.isPublic(c.getModifiers()));
        }
        for (Method m : PaneThread.class.getDeclaredMethods()) {
            if (!Modifier.isPrivate(m.getModifiers())) {
                T.holds(m + " is public, not static", m.getModifiers() == Modifier.PUBLIC);
                got.add(m.getReturnType() + " " + m.getName() + "(" + types(m.getParameterTypes()) + ")");
            }
        }
        Collections.sort(due);
        Collections.sort(got);
        T.holds("the face is that of the document: " + got, got.equals(due) && due.size() == 43);
        T.due("public and final", PaneThread.class.getModifiers(), Modifier.PUBLIC | Modifier.FINAL);
    }

    private static String types(Class<?>[] types) {
        List<String> names = new ArrayList<>();
        for (Class<?> t : types) {
            names.add(t.getName());
        }
        return String.join(", ", names);
    }

    private static void members() {
        Set<String> publicNames = new HashSet<>();
        for (Method m : PaneThread.class.getDeclaredMethods()) {
            if (Modifier.isPublic(m.getModifiers())) {
                publicNames.add(m.getName());
            }
        }
        List<Class<?>> classes = new ArrayList<>(List.of(PaneThread.class.getDeclaredClasses()));
        for (Class<?> c : classes) {
            T.holds(c + " is static", Modifier.isStatic(c.getModifiers()));
            T.holds(c + " isn't public", !Modifier.isPublic(c.getModifiers()) && !Modifier.isProtected(c.getModifiers()));
            T.holds(c + " has no class inside", c.getDeclaredClasses().length == 0);
        }
        classes.add(PaneThread.class);
        T.holds("at most twelve classes: " + classes.size(), classes.size() <= 12);
        for (Class<?> c : classes) {
            int fields = 0;
            for (Field f : c.getDeclaredFields()) {
                if (Modifier.isStatic(f.getModifiers())) {
                    T.holds(f + " is final", Modifier.isFinal(f.getModifiers()));
                } else {
                    fields++;
                }
                T.holds(f + " is hidden", c != PaneThread.class || Modifier.isPrivate(f.getModifiers()));
            }
            T.holds(c + " has at most twenty fields: " + fields, fields <= 20);
            for (Method m : c.getDeclaredMethods()) {
                boolean isPublic = Modifier.isPublic(m.getModifiers());
                T.holds(m + " bears no public name", isPublic || !publicNames.contains(m.getName()));
                T.holds(m + " has at most seven parameters", m.getParameterCount() <= 7);
            }
        }
    }

    private static void words(String source) {
        String code = source.replaceAll("(?s)/\\*.*?\\*/", "").replaceAll("//[^\\n]*", "")
                .replaceAll("\"[^\"]*\"", "\"\"");
        String[] refused = {"throw", "throws", "try", "catch", "finally", "synchronized", "assert", "package",
            "Object", "equals", "hashCode", "toString", "Random", "Thread", "System\\.(?!arraycopy)", "->", "::",
            "static\\s*\\{", "values\\(", "Exact\\(", "hashCode", "double", "float", "volatile", "native"};
        for (String word : refused) {
            String pattern = Character.isLetter(word.charAt(0)) && word.matches("\\w+") ? "\\b" + word + "\\b" : word;
            T.holds("no " + word, !Pattern.compile(pattern).matcher(code).find());
        }
        Matcher imports = Pattern.compile("import ([^;]*);").matcher(code);
        while (imports.find()) {
            T.holds("import " + imports.group(1), imports.group(1).equals("java.util.Arrays"));
        }
        T.holds("signs 1 to 127 alone", source.chars().allMatch(c -> c > 0 && c < 128));
    }

    /** Methods begin and end with lines of one depth, as this file's form has it. */
    private static void lengths(String source) {
        String[] lines = source.split("\n");
        Pattern head = Pattern.compile("^( {4}| {8})(?! )[^=;]*\\) \\{$");
        for (int i = 0; i < lines.length; i++) {
            Matcher m = head.matcher(lines[i]);
            if (m.find() && !lines[i].trim().matches("(if|for|while|switch|\\}).*")) {
                int end = i;
                while (end < lines.length && !lines[end].equals(m.group(1) + "}")) {
                    end++;
                }
                T.holds("at most sixty lines: " + lines[i].trim(), end - i + 1 <= 60);
            }
        }
    }

    /** Calls make nothing: rows are made by the constructor alone. */
    private static void room() {
        com.sun.management.ThreadMXBean bean = (com.sun.management.ThreadMXBean) ManagementFactory.getThreadMXBean();
        PaneThread x = new PaneThread();
        Checks.programFrom(x, "going 20 at 5;wait 50;again 30 at 4;wait 50;finger 3;wind -9;wait 50");
        dearest(x);
        long before = bean.getCurrentThreadAllocatedBytes();
        for (int i = 0; i < 20; i++) {
            dearest(x);
        }
        long made = bean.getCurrentThreadAllocatedBytes() - before;
        T.holds("calls make nothing: " + made + " bytes", made < 4096);
    }

    private static void dearest(PaneThread x) {
        x.scatter(60);
        x.image();
        x.play(0);
        x.least(3, 4, true);
        x.soonest(3, 4, 1);
        x.meet(3, 4, 5, 1);
        x.edge(17, 3, 4);
        x.basin(3, 1, 4);
        x.ways(3, 1);
        x.soft(2);
        x.need();
        x.sheet(0, 32, 40);
        x.copy(0, 0, 0, 1, 39);
        x.judge(0, 5);
        x.load(0, 0);
        x.feed(1, 4);
        x.program();
        x.tick(50);
        x.undo();
    }
}
