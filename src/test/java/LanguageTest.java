import java.io.IOException;
import java.lang.reflect.Constructor;
import java.lang.reflect.Field;
import java.lang.reflect.Method;
import java.lang.reflect.Modifier;
import java.nio.file.Files;
import java.nio.file.Path;
import java.util.Arrays;
import java.util.HashSet;
import java.util.Set;
import java.util.TreeSet;

/** What of LANGUAGE.md can be seen in the class file and in the text: the face, static state, words that are out. */
public final class LanguageTest {
    private static int wrong = 0;

    private static final String[] FACE = {
        "alone(int)boolean", "auto()int", "back()int", "best(int,int)int", "chance(int,int,int)int",
        "claim(int,int,int)int", "copies()long", "cuts(int)int", "cutsAnew()int", "deal(int,int,int)int", "draw()int",
        "end()int", "entry(int,int)int", "isReplayed()boolean", "isWhole()boolean", "joker(int)int", "lay(int)int",
        "passed(int,int)boolean", "plan(int,int)int", "play()int", "player(int,int)int", "playerIs(int,int)int",
        "poolIs(int)int", "rackIs(int,int)int", "rules(int,int,int,int,int)int", "states(int)int", "sum(int)int",
        "swap(int)int", "tableIs(int,boolean)int", "team(int)int", "tick(int)int", "type(char)int", "wipe()int"
    };
    private static final String[] CONSTANTS = {
        "BLOCKING=3", "GREEDY=1", "HUMAN=0", "JOKER=52", "NONE=-1", "SAVING=2"
    };
    private static final String[] OUT = {
        "\\btry\\b", "\\bcatch\\b", "\\bfinally\\b", "\\bassert\\b", "\\bsynchronized\\b", "->", "::", "\"",
        "\\binstanceof\\b", "\\bpackage\\b", "Exact\\b", "\\bprotected\\b", "\\bSystem\\b", "\\bdouble\\b", "\\bfloat\\b"
    };

    private static void must(boolean holds, String what) {
        if (!holds) {
            wrong++;
            System.out.println("not so: " + what);
        }
    }

    private static void face() throws IllegalAccessException {
        Class<?> face = Rackword.class;
        must(face.getModifiers() == (Modifier.PUBLIC | Modifier.FINAL), "public final class");
        Set<String> methods = new TreeSet<>();
        for (Method method : face.getDeclaredMethods()) {
            if (Modifier.isPublic(method.getModifiers())) methods.add(signature(method));
            else must(Modifier.isPrivate(method.getModifiers()) || method.isSynthetic(), method + " is private");
        }
        must(methods.equals(new TreeSet<>(Arrays.asList(FACE))), "the methods are the face: " + methods);
        Set<String> constants = new TreeSet<>();
        for (Field field : face.getDeclaredFields()) {
            if (Modifier.isPublic(field.getModifiers())) constants.add(field.getName() + "=" + field.getInt(null));
            else must(Modifier.isPrivate(field.getModifiers()), field + " is private");
        }
        must(constants.equals(new TreeSet<>(Arrays.asList(CONSTANTS))), "the constants are the face: " + constants);
        Constructor<?>[] constructors = face.getDeclaredConstructors();
        must(constructors.length == 1 && constructors[0].getParameterCount() == 0
            && Modifier.isPublic(constructors[0].getModifiers()), "one public constructor");
    }

    private static String signature(Method method) {
        StringBuilder text = new StringBuilder(method.getName()).append('(');
        for (Class<?> type : method.getParameterTypes()) {
            text.append(text.charAt(text.length() - 1) == '(' ? "" : ",").append(type.getName());
        }
        return text.append(')').append(method.getReturnType().getName()).toString();
    }

    private static void inside() {
        Class<?>[] classes = Rackword.class.getDeclaredClasses();
        must(classes.length + 1 <= 12, "at most twelve classes");
        Set<String> names = new HashSet<>();
        for (String method : FACE) names.add(method.substring(0, method.indexOf('(')));
        for (Class<?> one : classes) {
            must(Modifier.isStatic(one.getModifiers()) && Modifier.isPrivate(one.getModifiers()), one + " is private, static");
            must(one.getDeclaredClasses().length == 0, one + " has no class");
            members(one, names);
        }
        members(Rackword.class, names);
    }

    private static void members(Class<?> one, Set<String> names) {
        int fields = 0;
        for (Field field : one.getDeclaredFields()) {
            boolean isStatic = Modifier.isStatic(field.getModifiers());
            must(!isStatic || Modifier.isFinal(field.getModifiers()), field + " is final");
            fields += isStatic ? 0 : 1;
        }
        must(fields <= 20, one + " has some twenty fields, not " + fields);
        for (Method method : one.getDeclaredMethods()) {
            must(method.getParameterCount() <= 7, method + " takes at most seven");
            must(Modifier.isPublic(method.getModifiers()) || !names.contains(method.getName()),
                method + " bears no name of the face");
        }
    }

    private static void text(Path file) throws IOException {
        String source = Files.readString(file);
        must(source.chars().allMatch(sign -> sign < 127), "plain signs");
        String code = source.replaceAll("(?s)/\\*.*?\\*/", "").replaceAll("//[^\n]*", "");
        for (String out : OUT) {
            must(!java.util.regex.Pattern.compile(out).matcher(code).find(), "no " + out);
        }
        for (String line : code.split("\n")) {
            must(!line.startsWith("import") || line.equals("import java.util.Arrays;"), "one import: " + line);
            must(line.length() <= 125, "a line that can be read: " + line);
        }
        methodsAreShort(source);
    }

    /** A method of a class inside stands 8 in and ends with a brace 8 in, one of the class itself 4 in. */
    private static void methodsAreShort(String source) {
        String[] lines = source.split("\n");
        int start4 = 0, start8 = 0;
        for (int i = 0; i < lines.length; i++) {
            if (lines[i].matches(" {4}[a-z].*") && !lines[i].contains(" class ")) start4 = i;
            if (lines[i].matches(" {8}[a-z].*")) start8 = i;
            if (lines[i].matches(" {4}\\}") && start4 > 0 && !isInClass(lines, i)) {
                must(i - start4 < 60, "a short method up to line " + (i + 1));
            }
            if (lines[i].matches(" {8}\\}")) must(i - start8 < 60, "a short method up to line " + (i + 1));
        }
    }

    private static boolean isInClass(String[] lines, int end) {
        for (int i = end - 1; i > 0; i--) {
            if (lines[i].matches(" {4}[a-z].*")) return lines[i].contains(" class ");
        }
        return false;
    }

    public static void main(String[] args) throws IOException, IllegalAccessException {
        face();
        inside();
        text(Path.of(args.length > 0 ? args[0] : ".", "src/main/java/Rackword.java"));
        System.out.println(wrong == 0 ? "the rules hold as far as they are looked at" : wrong + " rules broken");
        if (wrong > 0) System.exit(1);
    }
}
