import java.io.IOException;
import java.lang.reflect.Method;
import java.lang.reflect.Modifier;
import java.nio.file.Files;
import java.nio.file.Path;
import java.util.ArrayList;
import java.util.Arrays;
import java.util.List;
import java.util.Set;
import java.util.TreeSet;
import java.util.regex.Matcher;
import java.util.regex.Pattern;

/** What a program can tell of the rules of LANGUAGE.md, and of the room that a run takes. */
final class LanguageTest {
    private static final String FACE = "joint() bar(int,int,int) cut(int,boolean) cost(int,int) rank() freedom() stiff() "
        + "kept(int) spare(int) circuit(int) circuitBar(int,int) grows(int,int) clusters() size(int) member(int,int) "
        + "together(int,int) hinge(int) pieces() cheapest() cheap(int) fewest() fewestAt(int) back(int,int) threes() "
        + "bundles() bundle(int) rankBy(int,int) keptBy(int,int,int) tight(int,int) forests() barOf(int,int) count(int)";

    private final Due due = new Due();

    private static String signature(Method method) {
        List<String> types = new ArrayList<>();
        for (Class<?> type : method.getParameterTypes()) {
            types.add(type.getName());
        }
        return method.getName() + "(" + String.join(",", types) + ")";
    }

    private void face() {
        Class<StiffFrames> type = StiffFrames.class;
        due.holds("the class is public and final", Modifier.isPublic(type.getModifiers()) && Modifier.isFinal(type.getModifiers()));
        due.same("public constructors", type.getConstructors().length, 1);
        due.same("constructors", type.getDeclaredConstructors().length, 1);
        Set<String> open = new TreeSet<>();
        Set<String> openNames = new TreeSet<>();
        Set<String> hiddenNames = new TreeSet<>();
        for (Method method : type.getDeclaredMethods()) {
            if (Modifier.isPrivate(method.getModifiers())) {
                hiddenNames.add(method.getName());
            } else {
                open.add(signature(method));
                openNames.add(method.getName());
                due.holds(method + " is public and answers an int",
                    Modifier.isPublic(method.getModifiers()) && method.getReturnType() == int.class);
            }
        }
        due.holds("the face is the document's", open.equals(new TreeSet<>(Arrays.asList(FACE.split(" ")))));
        hiddenNames.retainAll(openNames);
        due.holds("no private method has a public one's name", hiddenNames.isEmpty());
        Arrays.stream(type.getDeclaredFields())
            .forEach(field -> due.holds(field + " is private", Modifier.isPrivate(field.getModifiers())));
        inside(type, openNames);
    }

    private void inside(Class<?> type, Set<String> openNames) {
        due.holds("at most twelve classes", type.getDeclaredClasses().length < 12);
        for (Class<?> part : type.getDeclaredClasses()) {
            due.holds(part + " is static and not public",
                Modifier.isStatic(part.getModifiers()) && !Modifier.isPublic(part.getModifiers()));
            due.holds(part + " has at most twenty fields",
                Arrays.stream(part.getDeclaredFields()).filter(field -> !Modifier.isStatic(field.getModifiers())).count() <= 20);
            for (Method method : part.getDeclaredMethods()) {
                due.holds(method + " has a name of its own", !openNames.contains(method.getName()));
                due.holds(method + " has at most seven parameters", method.getParameterCount() <= 7);
            }
        }
    }

    private void words() throws IOException {
        String text = Files.readString(Path.of("src/main/java/StiffFrames.java"));
        String code = text.replaceAll("(?s)/\\*.*?\\*/", "").replaceAll("//[^\n]*", "");
        for (String word : "throw try catch synchronized assert package protected Exact hashCode System Object double float".split(" ")) {
            due.holds("no " + word, !Pattern.compile("\\b\\w*" + word + "\\b").matcher(code).find());
        }
        due.holds("no lambda, no method reference", !code.contains("->") && !code.contains("::"));
        due.same("imports", code.split("\nimport ", -1).length - 1 + (code.startsWith("import ") ? 1 : 0), 1);
        Matcher calls = Pattern.compile("\\b(Arrays|Integer|Math|Long)\\.(\\w+)").matcher(code);
        while (calls.find()) {
            due.holds(calls.group() + " is of the library that is left",
                Set.of("Arrays.fill", "Integer.bitCount", "Math.min", "Math.max").contains(calls.group()));
        }
        due.holds("no array of booleans is filled by the library", !code.contains("Arrays.fill(kept") && !code.contains("Arrays.fill(there"));
        due.holds("signs below 128 alone", text.chars().allMatch(sign -> sign < 128));
    }

    /** All is made in the constructor: calls make nothing, so that many runs find room. */
    private void room() {
        com.sun.management.ThreadMXBean beans =
            (com.sun.management.ThreadMXBean) java.lang.management.ManagementFactory.getThreadMXBean();
        long self = Thread.currentThread().getId();
        run();
        StiffFrames x = new StiffFrames();
        long before = beans.getThreadAllocatedBytes(self);
        use(x);
        long made = beans.getThreadAllocatedBytes(self) - before;
        due.holds("512 calls make nothing, they made " + made + " bytes", made < 4096);
        before = beans.getThreadAllocatedBytes(self);
        run();
        made = beans.getThreadAllocatedBytes(self) - before;
        due.holds("an object is small, it took " + made + " bytes", made < 20000);
    }

    private static int run() {
        return use(new StiffFrames());
    }

    private static int use(StiffFrames x) {
        int sum = 0;
        for (int i = 0; i < 24; i++) {
            sum += x.joint();
        }
        for (int i = 0; i < 90; i++) {
            sum += x.bar(i % 24, (i * 7 + i / 24 + 1) % 24, i);
        }
        for (int i = 0; i < 20; i++) {
            sum += x.cut(i, i % 2 == 0) + x.stiff() + x.clusters() + x.fewest() + x.threes() + x.bundles() + x.pieces();
            sum += x.cheapest() + x.forests() + x.tight(3, i % 6) + x.count(4) + x.count(5) + x.circuit(79 - i) + x.member(0, 1);
        }
        return sum;
    }

    public static void main(String[] args) throws IOException {
        LanguageTest test = new LanguageTest();
        test.face();
        test.words();
        test.room();
        test.due.end();
    }
}
