import java.io.IOException;
import java.lang.reflect.InvocationTargetException;
import java.lang.reflect.Method;
import java.nio.file.DirectoryStream;
import java.nio.file.Files;
import java.nio.file.Path;
import java.util.ArrayList;
import java.util.HashMap;
import java.util.List;
import java.util.Map;
import java.util.Set;
import java.util.TreeSet;

/**
 * Plays the texts under src/test/boundaries: for each sentence of the document that names a boundary case a test of its
 * own, on a new object. What a test has refused is left out on a second object, which must answer all the same.
 */
public final class BoundaryTest {
    private static final int MOST_CALLS = 512;
    private static final Map<String, Method> FACE = new HashMap<>();
    private static int wrong = 0;
    private static int tests = 0;
    private static int answers = 0;
    private static final Set<String> titles = new TreeSet<>();
    private static final Set<Integer> promises = new TreeSet<>();

    private final String title;
    private Rackword real;
    private Rackword spared;
    private Object model;
    private int calls;
    private int refused;

    private BoundaryTest(String title) {
        this.title = title;
    }

    // ---- one call, as a text

    /** The number that a word stands for: itself, a kind such as c12, or a yes or no. */
    private static long number(String word) {
        if (word.matches("[a-d][0-9]+")) return 13 * (word.charAt(0) - 'a') + Integer.parseInt(word.substring(1)) - 1;
        switch (word) {
            case "JOKER": return 52;
            case "NONE": return -1;
            case "LEAST_INT": return Integer.MIN_VALUE;
            case "MOST_INT": return Integer.MAX_VALUE;
            case "true": return 1;
            case "false": return 0;
            default: return Long.parseLong(word);
        }
    }

    private static Object argument(Class<?> type, String word) {
        if (type == char.class) return word.length() == 1 ? word.charAt(0) : (char) Integer.parseInt(word.substring(1));
        if (type == boolean.class) return number(word) == 1;
        return (int) number(word);
    }

    private static String outcome(Object object, String call) {
        String[] words = call.trim().split(" +");
        Method method = FACE.get(words[0]);
        if (method == null) return "no method " + words[0];
        try {
            if (!(object instanceof Rackword)) {
                method = object.getClass().getDeclaredMethod(words[0], method.getParameterTypes());
            }
            Class<?>[] types = method.getParameterTypes();
            if (types.length != words.length - 1) return "so many arguments: " + (words.length - 1);
            Object[] arguments = new Object[types.length];
            for (int i = 0; i < types.length; i++) arguments[i] = argument(types[i], words[i + 1]);
            Object answer = method.invoke(object, arguments);
            if (answer instanceof Boolean) return (Boolean) answer ? "1" : "0";
            return String.valueOf(answer);
        } catch (InvocationTargetException e) {
            return e.getCause().getClass().getSimpleName();
        } catch (ReflectiveOperationException e) {
            return e.toString();
        }
    }

    private static String due(String want) {
        switch (want) {
            case "Argument": return "IllegalArgumentException";
            case "State": return "IllegalStateException";
            case "Index": return "IndexOutOfBoundsException";
            default: return Long.toString(number(want));
        }
    }

    private void call(String call, String want) {
        answers++;
        calls++;
        String got = outcome(real, call);
        if (!got.equals(due(want))) tell(call + " answered " + got + ", due is " + due(want));
        String plain = model == null ? due(want) : outcome(model, call);
        if (!plain.equals(due(want))) tell(call + ": the model has " + plain);
        if (got.endsWith("Exception")) {
            refused++;
        } else if (!outcome(spared, call).equals(got)) {
            tell(call + " answered " + got + ", and otherwise where refused calls were left out");
        }
    }

    private void tell(String what) {
        wrong++;
        System.out.println(title + ": " + what);
    }

    // ---- short forms for several calls

    private void step(String step) {
        String[] sides = step.split(" = ");
        if (sides.length != 2) {
            tell("not a step: " + step);
            return;
        }
        String left = sides[0].trim(), right = sides[1].trim();
        String[] words = left.split(" +");
        if (words[0].equals("rack")) rack(words[1], right);
        else if (words[0].equals("write")) write(words[1], Integer.parseInt(right));
        else if (words[0].equals("played")) played(words[1], right);
        else if (words[0].equals("sums")) row("sum ", words[1], "", right);
        else if (words[0].equals("entry") && words.length == 2) row("entry " + words[1] + " ", "0", "", right);
        else if (words.length > 2 && words[1].equals("x")) times(Integer.parseInt(words[0]), left, right);
        else call(left, right);
    }

    /** write la1e = 4: each sign is typed, the last one answers 4. */
    private void write(String text, int last) {
        for (int i = 0; i < text.length(); i++) {
            call("type " + text.charAt(i), Integer.toString(last - text.length() + 1 + i));
        }
    }

    /** played la1e = 2: typed onto an empty slate, and done. */
    private void played(String text, String want) {
        write(text, text.length());
        call("play", want);
    }

    /** 3 x draw = 1: three times. */
    private void times(int times, String left, String want) {
        String call = left.substring(left.indexOf(" x ") + 3);
        for (int i = 0; i < times; i++) call(call, want);
    }

    /** sums 4 = 0 7: sum(4) is 0, sum(5) is 7. */
    private void row(String before, String from, String behind, String right) {
        String[] wants = right.split(" +");
        for (int i = 0; i < wants.length; i++) call(before + (Integer.parseInt(from) + i) + behind, wants[i]);
    }

    /** rack 0 = a1 a1 JOKER: this and no more is in the rack. */
    private void rack(String player, String right) {
        int[] many = new int[53];
        String[] words = right.equals("nothing") ? new String[0] : right.split(" +");
        for (String word : words) many[(int) number(word)]++;
        for (int kind = 0; kind <= 52; kind++) {
            if (many[kind] > 0) call("rackIs " + player + " " + kind, Integer.toString(many[kind]));
        }
        call("playerIs " + player + " 5", Integer.toString(words.length));
    }

    // ---- that what was refused changed nothing

    /** Asks the two objects for all that can be asked, as long as they have calls left. */
    private void compareAll() {
        List<String> questions = questions();
        for (int i = 0; i < questions.size() && calls < MOST_CALLS; i++) {
            calls++;
            String got = outcome(real, questions.get(i));
            String want = outcome(spared, questions.get(i));
            if (!got.equals(want)) tell("after refused calls " + questions.get(i) + " answered " + got + ", else " + want);
        }
    }

    private static List<String> questions() {
        List<String> all = new ArrayList<>();
        for (int i = 0; i <= 11; i++) all.add("sum " + i);
        for (int player = 0; player < 4; player++) {
            for (int i = 0; i <= 9; i++) all.add("playerIs " + player + " " + i);
            all.add("best " + player + " 1");
        }
        for (int i = 0; i < 4; i++) all.add("entry 0 " + i);
        all.add("copies");
        all.add("isWhole");
        all.add("isReplayed");
        all.add("cuts 0");
        all.add("wipe");
        for (int number = 1; number <= 13; number++) {
            for (int colour = 0; colour < 4; colour++) {
                int kind = 13 * colour + number - 1;
                all.add("tableIs " + kind + " false");
                all.add("tableIs " + kind + " true");
                all.add("rackIs 0 " + kind);
                all.add("rackIs 1 " + kind);
                all.add("poolIs " + kind);
                all.add("passed 0 " + kind);
                all.add("claim 0 " + kind + " 0");
            }
        }
        return all;
    }

    // ---- texts

    private void go(List<String> lines, boolean withModel) {
        tests++;
        real = new Rackword();
        spared = new Rackword();
        model = withModel ? new Model() : null;
        for (String line : lines) {
            for (String step : line.split(";")) step(step.trim());
        }
        if (calls > MOST_CALLS) tell("has " + calls + " calls, more than an object is good for");
        if (refused > 0) compareAll();
    }

    private static void begin(String title, List<String> lines, boolean withModel) {
        if (!titles.add(title)) {
            wrong++;
            System.out.println("twice: " + title);
        }
        promises.add(Integer.parseInt(title.split(" ")[0]));
        new BoundaryTest(title).go(lines, withModel);
    }

    /** A test is a line with the number of its promise and what it tests, and its calls behind that, set in. */
    private static void play(Path file, boolean withModel) throws IOException {
        String title = null;
        List<String> lines = new ArrayList<>();
        List<String> text = new ArrayList<>(Files.readAllLines(file));
        text.add("0 end");
        for (String line : text) {
            if (line.isBlank() || line.trim().startsWith("#")) continue;
            if (line.startsWith(" ")) {
                lines.add(line.trim());
                continue;
            }
            if (title != null) begin(title, lines, withModel);
            title = line.trim();
            lines.clear();
        }
    }

    public static void main(String[] args) throws IOException {
        for (Method method : Rackword.class.getMethods()) {
            if (method.getDeclaringClass() == Rackword.class) FACE.put(method.getName(), method);
        }
        boolean withModel = args.length > 1 && args[1].equals("model");
        Path folder = Path.of(args.length > 0 ? args[0] : ".", "src/test/boundaries");
        try (DirectoryStream<Path> files = Files.newDirectoryStream(folder, "*.txt")) {
            for (Path file : files) play(file, withModel);
        }
        for (int promise = 1; promise <= 34; promise++) {
            if (!promises.contains(promise)) {
                wrong++;
                System.out.println("promise " + promise + " has no test");
            }
        }
        System.out.println(tests + " tests, " + answers + " answers asked for, " + wrong + " wrong");
        if (wrong > 0) System.exit(1);
    }
}
