import java.io.IOException;
import java.lang.management.ManagementFactory;
import java.lang.reflect.Constructor;
import java.lang.reflect.Field;
import java.lang.reflect.Method;
import java.lang.reflect.Modifier;
import java.nio.file.Files;
import java.nio.file.Path;
import java.util.List;
import java.util.Set;
import java.util.TreeSet;
import java.util.function.IntConsumer;
import java.util.regex.Matcher;
import java.util.regex.Pattern;

/** What ../shared/LANGUAGE.md asks of the class, as far as a test can see it: the face, the words, the room. */
public final class RulesTest {
    private static final Checks C = new Checks();
    private static final Set<String> FACE = Set.of(
            "sheet/3", "set/3", "copy/5", "drop/1", "order/4", "marks/4", "powers/4", "sums/4", "take/3", "put/3",
            "turn/3", "nth/3", "clear/1", "kind/1", "is/2", "as/2", "ask/2", "trace/1", "at/2", "alike/2",
            "meeting/4", "most/1", "together/2", "echo/5", "lonely/2", "shortest/1", "count/1", "status/0");

    public static void main(String[] args) throws IOException {
        face();
        classesInside();
        words();
        library();
        lengths();
        room();
        C.end("RulesTest");
    }

    private static void holds(String rule, boolean kept) {
        C.due(rule, kept ? 1 : 0, 1);
    }

    private static void face() {
        Set<String> seen = new TreeSet<>();
        for (Method method : LonelyDots.class.getDeclaredMethods()) {
            if (Modifier.isPublic(method.getModifiers())) {
                seen.add(method.getName() + "/" + method.getParameterCount());
                holds("int: " + method, method.getReturnType() == int.class);
            } else if (!method.isSynthetic()) {
                holds("private: " + method, Modifier.isPrivate(method.getModifiers()));
                holds("own name: " + method, !isOfFace(method));
            }
        }
        holds("the methods of the face: " + seen, seen.equals(new TreeSet<>(FACE)));
        holds("final class", Modifier.isFinal(LonelyDots.class.getModifiers()));
        Constructor<?>[] constructors = LonelyDots.class.getDeclaredConstructors();
        holds("one public constructor", constructors.length == 1 && Modifier.isPublic(constructors[0].getModifiers()));
        for (Field field : LonelyDots.class.getDeclaredFields()) {
            boolean constant = List.of("NONE", "BAD", "FULL").contains(field.getName());
            holds("seen or not: " + field, constant ? Modifier.isPublic(field.getModifiers()) : Modifier.isPrivate(field.getModifiers()));
        }
    }

    private static void classesInside() {
        Class<?>[] inside = LonelyDots.class.getDeclaredClasses();
        holds("some twelve classes", inside.length <= 12);
        for (Class<?> own : inside) {
            holds("static: " + own, Modifier.isStatic(own.getModifiers()));
            holds("not public: " + own, !Modifier.isPublic(own.getModifiers()) && !Modifier.isProtected(own.getModifiers()));
            for (Method method : own.getDeclaredMethods()) {
                holds("own name: " + method, !Modifier.isPrivate(method.getModifiers()) || !isOfFace(method));
            }
            fewFieldsAndParameters(own);
        }
        fewFieldsAndParameters(LonelyDots.class);
    }

    private static boolean isOfFace(Method method) {
        return FACE.stream().anyMatch(m -> m.startsWith(method.getName() + "/"));
    }

    private static void fewFieldsAndParameters(Class<?> one) {
        int fields = 0;
        for (Field field : one.getDeclaredFields()) {
            boolean isStatic = Modifier.isStatic(field.getModifiers());
            fields += isStatic ? 0 : 1;
            holds("a constant: " + field, !isStatic || Modifier.isFinal(field.getModifiers()) && field.getType() == int.class);
        }
        holds("some twenty fields: " + one, fields <= 20);
        for (Method method : one.getDeclaredMethods()) {
            holds("seven parameters: " + method, method.getParameterCount() <= 7);
        }
    }

    private static void words() throws IOException {
        String source = code();
        for (String word : List.of("throw", "throws", "try", "catch", "synchronized", "assert", "Exception", "Random",
                "System.currentTimeMillis", "System.nanoTime", "System.out", "package", "equals", "hashCode", "toString")) {
            holds("no " + word, !source.matches("(?s).*\\b" + word.replace(".", "\\.") + "\\b.*"));
        }
        holds("no lambda", !source.contains("->") && !source.contains("::"));
        holds("no annotation", !source.contains("@"));
        holds("no static block", !source.matches("(?s).*static\\s*\\{.*"));
        for (String line : source.split("\n")) {
            holds("import: " + line, !line.startsWith("import") || line.equals("import java.util.Arrays;"));
        }
    }

    /** Every name with a point behind it that begins large is a class; of the library's there are only these. */
    private static void library() throws IOException {
        holds("signs up to 127", source().chars().allMatch(sign -> sign >= 1 && sign <= 127));
        Set<String> own = new TreeSet<>(Set.of("LonelyDots"));
        for (Class<?> inside : LonelyDots.class.getDeclaredClasses()) {
            own.add(inside.getSimpleName());
        }
        Matcher used = Pattern.compile("\\b([A-Z][A-Za-z]*[a-z][A-Za-z]*)\\s*\\.\\s*(\\w+)").matcher(code());
        while (used.find()) {
            String name = used.group(1) + "." + used.group(2);
            holds("in the library's list: " + name, own.contains(used.group(1)) || name.equals("Arrays.fill")
                    || name.equals("Arrays.copyOfRange") || name.equals("System.arraycopy") || name.equals("Math.max")
                    || name.equals("Math.min"));
        }
    }

    private static String source() throws IOException {
        return Files.readString(Path.of("src/main/java/LonelyDots.java"));
    }

    private static String code() throws IOException {
        return source().replaceAll("(?s)/\\*.*?\\*/", " ").replaceAll("//[^\n]*", " ");
    }

    private static void lengths() throws IOException {
        int begun = 0;
        int number = 0;
        for (String line : source().split("\n")) {
            number++;
            if (line.matches(" +[^/*]*\\) \\{") && !line.matches(" +(\\} else )?(if|for|while|switch) .*")) {
                begun = number;
            }
            holds("a short method ends at line " + number, !line.matches(" +\\}") || number - begun <= 60 || begun == 0);
            begun = line.contains(" class ") ? 0 : begun;
        }
    }

    /** Some 7.3 million elements are the room of a whole run; no 512 calls may come near to it. */
    private static void room() {
        LonelyDots x = new LonelyDots();
        Checks.write(x, 0, 0, 1, 2, 3, 4, 5, 6, 7, 8, 9, 10, 11, 12, 13, 14, 15);
        x.powers(0, 17, 3, 0);
        x.powers(1, 13, 2, 0);
        small("new", k -> new LonelyDots(), 8_000_000);
        small("sheet", k -> x.sheet(1, 2, 60), 500_000);
        small("order", k -> x.order(2, 0, 0, 16), 500_000);
        small("marks", k -> x.marks(2, 0, 0, 12), 500_000);
        small("powers", k -> x.powers(2, 17, 3, k % 16), 500_000);
        small("sums", k -> x.sums(2, 17, 3, 3), 500_000);
        small("put", k -> x.put(2, 1, k % 4), 500_000);
        small("turn", k -> x.turn(2, 0, k % 8), 500_000);
        small("nth", k -> x.nth(2, 7, k % 200), 500_000);
        small("ask", k -> x.ask(0, k % 2), 500_000);
        small("alike", k -> x.alike(0, k % 4), 500_000);
        small("most", k -> x.most(0), 500_000);
        small("together", k -> x.together(0, 1), 500_000);
        small("echo", k -> x.echo(0, 0, 0, 8, 2), 500_000);
        small("lonely", k -> x.lonely(1 + k % 7, 1), 500_000);
        small("shortest", k -> x.shortest(1 + k % 6), 500_000);
    }

    private static void small(String call, IntConsumer calls, long mostBytes) {
        com.sun.management.ThreadMXBean threads = (com.sun.management.ThreadMXBean) ManagementFactory.getThreadMXBean();
        long ahead = threads.getCurrentThreadAllocatedBytes();
        for (int k = 0; k < 512; k++) {
            calls.accept(k);
        }
        long bytes = threads.getCurrentThreadAllocatedBytes() - ahead;
        holds("512 times " + call + " in " + bytes + " bytes", bytes < mostBytes);
    }
}
