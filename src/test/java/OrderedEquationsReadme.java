import com.sun.management.ThreadMXBean;
import java.io.IOException;
import java.lang.management.ManagementFactory;
import java.lang.reflect.Field;
import java.lang.reflect.InvocationTargetException;
import java.lang.reflect.Method;
import java.lang.reflect.Modifier;
import java.nio.file.Files;
import java.nio.file.Path;
import java.util.List;
import java.util.Set;
import java.util.TreeSet;
import java.util.regex.Matcher;
import java.util.regex.Pattern;
import java.util.stream.Collectors;
import java.util.stream.Stream;

/** What README.md says is so: its examples, its table of calls, the files that it names. */
public final class OrderedEquationsReadme {
    private static final Pattern MADE = Pattern.compile("OrderedEquations x = new OrderedEquations\\(\\);");
    private static final Pattern TYPED = Pattern.compile(
            "for \\(char c : \"([^\"]*)\"\\.toCharArray\\(\\)\\) x\\.type\\(c\\);");
    private static final Pattern CALLED = Pattern.compile(
            "x\\.(\\w+)\\(([^)]*)\\); *// (' '|[^\\s:]+)(: .+)?");
    private static final Pattern ROW = Pattern.compile("\\| `(\\w+)\\(([^)]*)\\)` \\|.*");
    private static final Pattern FILE = Pattern.compile("`((?:src|\\.ci)/[\\w./]*)`");
    private static OrderedEquations x = new OrderedEquations();
    private static int wrong = 0;

    public static void main(String[] args) throws IOException {
        List<String> lines = Files.readAllLines(Path.of("README.md"));
        examples(lines);
        table(lines);
        constants(lines);
        files(lines);
        callsMakeNothing();
        System.out.println(wrong == 0 ? "README.md is right" : wrong + " lines of README.md are not so");
        System.exit(wrong == 0 ? 0 : 1);
    }

    private static void due(String what, Object got, Object want) {
        if (!got.equals(want)) {
            wrong++;
            System.out.println(what + ": " + got + ", README.md says " + want);
        }
    }

    private static void examples(List<String> lines) {
        boolean inside = false;
        int calls = 0;
        for (String line : lines) {
            if (line.startsWith("```")) {
                inside = line.equals("```java");
            } else if (inside) {
                calls += example(line) ? 1 : 0;
            }
        }
        due("there are examples", calls > 0, true);
    }

    /** Whether it is a call with an answer. */
    private static boolean example(String line) {
        Matcher typed = TYPED.matcher(line);
        Matcher called = CALLED.matcher(line);
        if (MADE.matcher(line).matches()) {
            x = new OrderedEquations();
        } else if (typed.matches()) {
            for (char c : typed.group(1).toCharArray()) {
                due(line, x.type(c), true);
            }
        } else if (called.matches()) {
            due(line, answer(called.group(1), called.group(2)), value(called.group(3)));
            return true;
        } else {
            due(line, "is no example that can be run", "so");
        }
        return false;
    }

    private static String answer(String name, String arguments) {
        String[] numbers = arguments.isEmpty() ? new String[0] : arguments.split(", ");
        Object[] values = new Object[numbers.length];
        for (int i = 0; i < numbers.length; i++) {
            values[i] = Integer.valueOf(numbers[i]);
        }
        for (Method method : OrderedEquations.class.getMethods()) {
            if (method.getName().equals(name) && method.getParameterCount() == values.length) {
                try {
                    Object got = method.invoke(x, values);
                    return got instanceof Character ? "'" + got + "'" : "" + got;
                } catch (InvocationTargetException e) {
                    return e.getCause().getClass().getSimpleName();
                } catch (IllegalAccessException e) {
                    return "not open";
                }
            }
        }
        return "no such call";
    }

    /** The number of a constant that is told by its name. */
    private static String value(String told) {
        try {
            return "" + OrderedEquations.class.getField(told).get(null);
        } catch (ReflectiveOperationException e) {
            return told;
        }
    }

    private static void table(List<String> lines) {
        Set<String> told = new TreeSet<>();
        for (String line : lines) {
            Matcher row = ROW.matcher(line);
            if (row.matches()) {
                int arguments = row.group(2).isEmpty() ? 0 : row.group(2).split(", ").length;
                due("a call is told twice: " + line, told.add(row.group(1) + "/" + arguments), true);
            }
        }
        Set<String> there = new TreeSet<>();
        for (Method method : OrderedEquations.class.getDeclaredMethods()) {
            if (Modifier.isPublic(method.getModifiers())) {
                there.add(method.getName() + "/" + method.getParameterCount());
            }
        }
        due("the calls", there, told);
    }

    private static void constants(List<String> lines) {
        String all = String.join("\n", lines);
        for (Field field : OrderedEquations.class.getFields()) {
            due(field.getName() + " is told", all.contains("`" + field.getName() + "`"), true);
        }
    }

    private static void files(List<String> lines) throws IOException {
        Set<String> told = new TreeSet<>();
        for (String line : lines) {
            Matcher file = FILE.matcher(line);
            while (file.find()) {
                told.add(file.group(1));
                due(file.group(1) + " is there", Files.exists(Path.of(file.group(1))), true);
            }
        }
        try (Stream<Path> tests = Files.walk(Path.of("src/test"))) {
            due("the tests", tests.filter(Files::isRegularFile).map(Path::toString)
                            .collect(Collectors.toCollection(TreeSet::new)),
                    told.stream().filter(name -> name.startsWith("src/test/"))
                            .collect(Collectors.toCollection(TreeSet::new)));
        }
        due(".ci/run is told", lines.contains(".ci/run"), true);
        due(".ci/run is there", Files.exists(Path.of(".ci/run")), true);
    }

    /**
     * In the first round the machine makes things for itself; in later ones it would leave out what
     * a call makes for itself alone, as it has become faster by then: so these few, and the least.
     */
    private static void callsMakeNothing() {
        ThreadMXBean thread = (ThreadMXBean) ManagementFactory.getThreadMXBean();
        char[] given = "pdu=u ppuvw=pupvw pfuu=d".toCharArray();
        char[] read = "ppabpcd=ppuvpcd".toCharArray();
        long least = Long.MAX_VALUE;
        for (int round = 0; round < 4; round++) {
            x = new OrderedEquations();
            long before = thread.getCurrentThreadAllocatedBytes();
            long nothing = thread.getCurrentThreadAllocatedBytes() - before;
            before = thread.getCurrentThreadAllocatedBytes();
            run(given, read);
            long made = thread.getCurrentThreadAllocatedBytes() - before - nothing;
            least = made < least ? made : least;
        }
        due("bytes that a run of calls makes", least, 0L);
        due("active after that run", x.count(0), 10);
    }

    private static void run(char[] given, char[] read) {
        for (char c : given) {
            if (c == ' ') {
                x.axiom();
            } else {
                x.type(c);
            }
        }
        x.axiom();
        type(read);
        x.unify();
        type(read);
        x.compare();
        for (int i = 0; i < 7; i++) {
            type(read);
            x.goal();
            x.wipe();
            x.steps(20);
            for (int p = 0; p < read.length && read[p] != '='; p++) {
                x.type(read[p]);
            }
            x.reduce();
            x.show(0, 0);
            x.charAt(x.length() - 1);
            x.count(i % 3);
        }
    }

    private static void type(char[] letters) {
        for (char c : letters) {
            x.type(c);
        }
    }
}
