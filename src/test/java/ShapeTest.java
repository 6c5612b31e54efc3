import java.io.IOException;
import java.lang.reflect.Field;
import java.lang.reflect.Modifier;
import java.nio.file.Files;
import java.nio.file.Path;
import java.util.ArrayList;
import java.util.Arrays;
import java.util.HashSet;
import java.util.List;
import java.util.Map;
import java.util.Set;
import java.util.TreeMap;
import java.util.TreeSet;
import java.util.regex.Matcher;
import java.util.regex.Pattern;

/** The rules of LANGUAGE.md about the text of the class: its fields, its methods, its loops, how deep calls go. */
final class ShapeTest {
    private static final int LONGEST = 60;
    private static final int DEEPEST = 8;
    private static final Pattern METHOD =
        Pattern.compile("(?m)^( +)((?:public |private |static )*)(?:int |boolean |void )(\\w+)\\([^()]*\\) \\{\n((?s).*?)^\\1\\}");
    private static final Pattern FOR = Pattern.compile("(?m)^( +)for \\((.*)\\) \\{\n((?s).*?)^\\1\\}");
    private static final Pattern COUNTED = Pattern.compile("int (\\w+) = [^;]*; (?:[^;]* )?\\1 <=? [^;]*; \\1\\+\\+");
    private static final Pattern WHILE = Pattern.compile("(?m)^( +)while \\((.*)\\) \\{\n((?s).*?)^\\1\\}");
    private static final Pattern COUNTED_DOWN = Pattern.compile(".*\\b(\\w+) > 0 .*");

    private final Due due = new Due();
    private final Map<String, Set<String>> calls = new TreeMap<>();
    private final Set<String> open = new TreeSet<>();
    private final String code;

    private ShapeTest(String text) {
        code = text.replaceAll("(?s)/\\*.*?\\*/", "").replaceAll("//[^\n]*", "");
    }

    private void fields() {
        Set<Class<?>> own = new HashSet<>(Arrays.asList(StiffFrames.class.getNestMembers()));
        due.same("classes that are not declared members", own.size() - StiffFrames.class.getDeclaredClasses().length, 1);
        Set<Class<?>> plain = Set.of(int.class, boolean.class, int[].class, boolean[].class);
        for (Class<?> type : own) {
            for (Field field : type.getDeclaredFields()) {
                if (Modifier.isStatic(field.getModifiers())) {
                    due.holds(field + " is a constant", Modifier.isFinal(field.getModifiers()) && field.getType() == int.class);
                } else {
                    due.holds(field + " is of a type that is left", plain.contains(field.getType()) || own.contains(field.getType()));
                }
            }
        }
    }

    private void methods() {
        Matcher method = METHOD.matcher(code);
        while (method.find()) {
            String name = method.group(3);
            String body = method.group(4);
            if (method.group(2).startsWith("public")) {
                open.add(name);
            }
            // Methods of one name are taken for one: what calls one of them may call what any of them calls.
            calls.computeIfAbsent(name, same -> new TreeSet<>()).addAll(namesCalled(body));
            due.holds(name + " is short", body.split("\n").length < LONGEST);
            due.holds(name + " makes nothing", !body.contains("new "));
        }
        due.same("public methods that were looked at", open.size(), 32);
    }

    private static Set<String> namesCalled(String body) {
        Set<String> names = new TreeSet<>();
        Matcher call = Pattern.compile("\\b(\\w+)\\(").matcher(body);
        while (call.find()) {
            names.add(call.group(1));
        }
        return names;
    }

    private void depth() {
        for (String name : open) {
            int depth = depthOf(name, List.of());
            due.holds(name + " goes " + depth + " calls deep, and none calls itself", depth <= DEEPEST);
        }
    }

    private int depthOf(String name, List<String> above) {
        if (above.contains(name)) {
            return DEEPEST + 1;
        }
        int below = 0;
        List<String> path = new ArrayList<>(above);
        path.add(name);
        for (String called : calls.get(name)) {
            if (calls.containsKey(called)) {
                below = Math.max(below, depthOf(called, path));
            }
        }
        return below + 1;
    }

    private void loops() {
        int found = 0;
        Matcher loop = FOR.matcher(code);
        for (int at = 0; loop.find(at); at = loop.start() + 1) {
            Matcher head = COUNTED.matcher(loop.group(2));
            boolean counted = head.matches();
            due.holds("for (" + loop.group(2) + ") counts up to a bound", counted && !changes(head.group(1), loop.group(3)));
            found++;
        }
        loop = WHILE.matcher(code);
        for (int at = 0; loop.find(at); at = loop.start() + 1) {
            Matcher head = COUNTED_DOWN.matcher(loop.group(2));
            boolean counted = head.matches();
            due.holds("while (" + loop.group(2) + ") counts down to 0", counted && loop.group(3).contains(head.group(1) + "--;"));
            found++;
        }
        due.same("loops that were looked at", found, Pattern.compile("\\b(for|while|do)\\b").matcher(code).results().count());
    }

    private static boolean changes(String counter, String body) {
        return Pattern.compile("(?m)^ *" + counter + "( [-+*/|&^]?= |\\+\\+|--)").matcher(body).find();
    }

    public static void main(String[] args) throws IOException {
        ShapeTest test = new ShapeTest(Files.readString(Path.of("src/main/java/StiffFrames.java")));
        test.fields();
        test.methods();
        test.depth();
        test.loops();
        test.due.end();
    }
}
