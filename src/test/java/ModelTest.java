import java.lang.reflect.InvocationTargetException;
import java.lang.reflect.Method;
import java.util.ArrayList;
import java.util.Arrays;
import java.util.Comparator;
import java.util.List;
import java.util.Random;

/** Random runs of calls, of which the program and the model must answer every one alike. */
public final class ModelTest {
    private static final int RUNS = 1500;
    private static final int CALLS = 512;
    private static final int[] EXTREMES = {-2, -1, 0, 1, 100, 1000, 65536, Integer.MIN_VALUE, Integer.MAX_VALUE};
    private static final String[] WORDS = {
        "going", "dropping", "straight", "standing", "swinging", "broken", "plaited", "again"};

    private final Random random;
    private final PaneThread program = new PaneThread();
    private final Model model = new Model();
    private final List<String> log = new ArrayList<>();

    private ModelTest(long seed) {
        random = new Random(seed);
    }

    public static void main(String[] args) throws Exception {
        List<Method> methods = new ArrayList<>();
        for (Method m : PaneThread.class.getDeclaredMethods()) {
            if (java.lang.reflect.Modifier.isPublic(m.getModifiers())) {
                methods.add(m);
            }
        }
        methods.sort(Comparator.comparing(Method::getName));
        int runs = args.length > 2 ? Integer.parseInt(args[2]) : RUNS;
        for (int run = 0; run < runs; run++) {
            ModelTest test = new ModelTest(run);
            if (!test.isAlike(methods)) {
                System.out.println("run " + run + ": " + String.join("; ", test.log));
                System.exit(1);
            }
        }
        System.out.println("ModelTest: " + runs + " runs of " + CALLS + " calls are alike");
    }

    private boolean isAlike(List<Method> methods) throws Exception {
        int temper = random.nextInt(4);
        while (log.size() < CALLS) {
            int choice = random.nextInt(100);
            boolean alike;
            if (choice < 3 && log.size() + 40 < CALLS) {
                alike = isTextAlike();
            } else {
                Method m = methods.get(random.nextInt(methods.size()));
                boolean isRare = m.getName().equals("clean") || m.getName().equals("wipe")
                        || temper == 0 && (m.getName().equals("undo") || m.getName().equals("image"));
                if (isRare && random.nextInt(4) != 0) {
                    continue;
                }
                alike = isCallAlike(m.getName(), m.getParameterTypes(), arguments(m, temper));
            }
            if (!alike) {
                return false;
            }
        }
        return true;
    }

    private boolean isCallAlike(String name, Class<?>[] types, Object[] values) throws Exception {
        int got;
        try {
            got = (int) PaneThread.class.getMethod(name, types).invoke(program, values);
        } catch (InvocationTargetException e) {
            log.add(name + Arrays.toString(values) + " threw " + e.getCause());
            return false;
        }
        int due = (int) Model.class.getDeclaredMethod(name, types).invoke(model, values);
        log.add(name + Arrays.toString(values) + " = " + got + (got == due ? "" : ", due is " + due));
        return got == due;
    }

    private boolean isTextAlike() throws Exception {
        String text = text();
        Class<?>[] two = {int.class, int.class};
        boolean alike = isCallAlike("wipe", new Class<?>[0], new Object[0]);
        for (int i = 0; alike && i < text.length(); i += 4) {
            int n = Math.min(4, text.length() - i);
            int packed = random.nextInt();
            for (int k = 0; k < n; k++) {
                packed = packed << 8 | text.charAt(i + k);
            }
            alike = isCallAlike("feed", two, new Object[] {packed, n});
        }
        alike = alike && isCallAlike("program", new Class<?>[0], new Object[0]);
        int number = random.nextInt(6);
        alike = alike && isCallAlike("programOf", two, new Object[] {number, random.nextInt(2)});
        return alike && isCallAlike("play", new Class<?>[] {int.class}, new Object[] {number});
    }

    private String text() {
        StringBuilder text = new StringBuilder();
        int deeds = random.nextInt(10) == 0 ? 11 + random.nextInt(4) : 1 + random.nextInt(5);
        for (int i = 0; i < deeds; i++) {
            text.append(i > 0 ? ";" : "").append(random.nextInt(3) == 0 ? " " : "");
            text.append(deeds > 10 ? "lean " + random.nextInt(10) : deed());
        }
        if (random.nextInt(3) == 0 && text.length() > 0) {
            String signs = "a 0;-9Z!" + (char) 200;
            int place = random.nextInt(text.length());
            int way = random.nextInt(3);
            text.replace(place, place + (way == 0 ? 0 : 1),
                    way == 1 ? "" : "" + signs.charAt(random.nextInt(signs.length())));
        }
        return text.length() > 100 ? text.substring(0, 100) : text.toString();
    }

    private String deed() {
        switch (random.nextInt(9)) {
            case 0:
                return "wait " + (random.nextInt(10) == 0 ? random.nextInt(55) : 1 + random.nextInt(4));
            case 1:
                return "lean " + random.nextInt(random.nextInt(10) == 0 ? 12 : 10);
            case 2:
                return "fade " + random.nextInt(random.nextInt(10) == 0 ? 12 : 10);
            case 3:
                return "wind " + (random.nextBoolean() ? "-" : "") + random.nextInt(21);
            case 4:
                return "finger " + random.nextInt(12);
            default:
                return WORDS[random.nextInt(8)] + " " + (1 + random.nextInt(30)) + " at " + random.nextInt(12);
        }
    }

    private Object[] arguments(Method m, int temper) {
        Class<?>[] types = m.getParameterTypes();
        Object[] values = new Object[types.length];
        boolean isWrong = random.nextInt(12) == 0;
        for (int i = 0; i < types.length; i++) {
            if (types[i] == boolean.class) {
                values[i] = random.nextBoolean();
            } else if (isWrong && random.nextInt(types.length) == 0) {
                values[i] = EXTREMES[random.nextInt(EXTREMES.length)];
            } else {
                values[i] = fitting(m.getName(), i, temper);
            }
        }
        return values;
    }

    /** An argument that mostly fits, by the method's name and the place. */
    private int fitting(String name, int i, int temper) {
        String role = roles(name).split(" ")[i];
        switch (role) {
            case "cell":
                return random.nextInt(192);
            case "row":
                return random.nextInt(16);
            case "column":
                return random.nextInt(12);
            case "kind":
                return random.nextInt(8);
            case "water":
                return 1 + random.nextInt(temper < 2 ? 30 : 99);
            case "drop":
                return random.nextInt(random.nextBoolean() ? 8 : 3);
            case "what":
                return random.nextInt(4);
            case "eight":
                return random.nextInt(8);
            case "dirt":
                return random.nextInt(10);
            case "spot":
                return random.nextInt(4);
            case "sheet":
                return random.nextInt(4);
            case "bits":
                return random.nextInt(12) == 0 ? 0 : 8 << random.nextInt(random.nextBoolean() ? 1 : 3);
            case "size":
                return random.nextInt(41);
            case "small":
                return random.nextInt(8);
            case "steps":
                return random.nextInt(random.nextBoolean() ? 18 : 65);
            case "setting":
                return random.nextInt(10) * (random.nextInt(4) == 0 ? -2 : 1);
            case "ticks":
                return 1 + random.nextInt(random.nextInt(8) == 0 ? 50 : 3);
            case "times":
                return 1 + random.nextInt(60);
            default:
                return random.nextInt();
        }
    }

    private static String roles(String name) {
        switch (name) {
            case "cellOf": return "cell what";
            case "dirt": return "cell dirt";
            case "set": return "what setting";
            case "scatter": return "times";
            case "clean": return "row";
            case "finger": case "shed": return "column";
            case "fades": return "cell";
            case "drop": return "kind column water";
            case "dropOf": return "drop what";
            case "tick": return "ticks";
            case "next": return "drop";
            case "pour": return "drop water";
            case "feed": return "any what";
            case "programOf": return "what what";
            case "play": return "what";
            case "path": return "kind column water what";
            case "along": return "kind column water steps";
            case "least": return "kind column dry";
            case "basin": return "kind water column";
            case "ways": return "kind water";
            case "soonest": return "kind column water";
            case "meet": return "kind column column water";
            case "edge": return "cell kind column";
            case "soft": return "what";
            case "open": return "row water";
            case "seed": return "any";
            case "hold": return "spot drop";
            case "as": return "spot kind";
            case "sheet": return "sheet bits size";
            case "write": return "sheet small dirt";
            case "copy": return "sheet small sheet small small";
            case "load": return "sheet cell";
            case "judge": return "sheet kind";
            case "count": case "status": return "eight";
            default: return "";
        }
    }
}
