import java.io.IOException;
import java.lang.reflect.Method;
import java.nio.file.Files;
import java.nio.file.Path;
import java.util.Set;
import java.util.TreeSet;
import java.util.regex.Matcher;
import java.util.regex.Pattern;

// Makes the calls of the example in README.md, which is sought where the test is started, and compares each answer with the one beside it.
public final class ReadmeTest {
    private static final Pattern MADE = Pattern.compile("CutTree net = new CutTree\\((-?\\d+)\\);.*");
    private static final Pattern CALL = Pattern.compile("net\\.(\\w+)\\(([-\\d, ]*)\\);\\s*// (true|false|-?\\d+|CutTree\\.BAD)(,.*)?");

    private static int wrong = 0;

    private static void fault(String words) {
        wrong++;
        System.out.println(words);
    }

    private static Object[] numbers(String words) {
        return words.isEmpty() ? new Object[0] : Pattern.compile(", ").splitAsStream(words).map(Integer::valueOf).toArray();
    }

    private static Object answer(CutTree net, String name, Object[] arguments) throws ReflectiveOperationException {
        for (Method method : CutTree.class.getMethods()) {
            if (method.getName().equals(name) && method.getParameterCount() == arguments.length) {
                return method.invoke(net, arguments);
            }
        }
        return "nothing, for there is no such method";
    }

    private static Set<String> publicMethods() {
        Set<String> names = new TreeSet<>();
        for (Method method : CutTree.class.getMethods()) {
            if (method.getDeclaringClass() == CutTree.class) {
                names.add(method.getName());
            }
        }
        return names;
    }

    private static void call(CutTree net, Matcher call) throws ReflectiveOperationException {
        String got = String.valueOf(answer(net, call.group(1), numbers(call.group(2))));
        String want = call.group(3).replace("CutTree.BAD", String.valueOf(CutTree.BAD));
        if (!got.equals(want)) {
            fault(call.group() + " answered " + got);
        }
    }

    private static void example(String[] lines) throws ReflectiveOperationException {
        Set<String> notShown = publicMethods();
        CutTree net = null;
        for (String line : lines) {
            Matcher made = MADE.matcher(line);
            Matcher call = CALL.matcher(line);
            if (made.matches()) {
                net = new CutTree(Integer.parseInt(made.group(1)));
            } else if (net != null && call.matches()) {
                call(net, call);
                notShown.remove(call.group(1));
            } else {
                fault("not understood: " + line);
            }
        }
        if (!notShown.isEmpty()) {
            fault("the example does not show " + notShown);
        }
    }

    public static void main(String[] args) throws IOException, ReflectiveOperationException {
        String readme = Files.readString(Path.of("README.md"));
        String[] blocks = readme.split("```java\n", 2);
        if (blocks.length < 2) {
            fault("README.md has no example");
        } else {
            example(blocks[1].split("```", 2)[0].split("\n"));
        }
        System.out.println(wrong == 0 ? "the example is as due" : wrong + " things are not as due");
        if (wrong != 0) {
            System.exit(1);
        }
    }
}
