import java.io.IOException;
import java.lang.reflect.Method;
import java.lang.reflect.Modifier;
import java.nio.file.Files;
import java.nio.file.Path;
import java.util.regex.Matcher;
import java.util.regex.Pattern;

/** README.md tells the truth: its example answers what it says, and no call of the face is left out. */
public final class ReadmeTest {
    private static final Checks CHECKS = new Checks();

    public static void main(String[] args) throws IOException, ReflectiveOperationException {
        String readme = Files.readString(Path.of(args[1], "README.md"));
        checkExample(readme.substring(readme.indexOf("```java"), readme.lastIndexOf("```")));
        for (Method method : NetWalkers.class.getDeclaredMethods()) {
            if (Modifier.isPublic(method.getModifiers())) {
                checkIsTold(readme, method);
            }
        }
        CHECKS.end();
    }

    private static void checkExample(String example) throws ReflectiveOperationException {
        NetWalkers net = new NetWalkers();
        int calls = 0;
        Matcher line = Pattern.compile("(?m)^net\\.(\\w+)\\((.*)\\); +// (-?\\d+)\\b").matcher(example);
        while (line.find()) {
            calls++;
            int want = Integer.parseInt(line.group(3));
            CHECKS.due("README's " + line.group(1) + "(" + line.group(2) + ")", answer(net, line.group(1), line.group(2)), want);
        }
        CHECKS.due("calls of the example that are told with an answer", calls, example.split("\nnet\\.").length - 1);
    }

    private static int answer(NetWalkers net, String name, String told) throws ReflectiveOperationException {
        String[] texts = told.isEmpty() ? new String[0] : told.split(", ");
        Object[] numbers = new Object[texts.length];
        Class<?>[] types = new Class<?>[texts.length];
        for (int k = 0; k < texts.length; k++) {
            boolean truth = texts[k].equals("true") || texts[k].equals("false");
            types[k] = truth ? boolean.class : int.class;
            numbers[k] = truth ? (Object) Boolean.valueOf(texts[k]) : (Object) Integer.valueOf(texts[k]);
        }
        return (Integer) NetWalkers.class.getMethod(name, types).invoke(net, numbers);
    }

    private static void checkIsTold(String readme, Method method) throws ReflectiveOperationException {
        Matcher row = Pattern.compile("(?m)^\\| `" + method.getName() + "\\(([^)]*)\\)` (\\* )?\\| ").matcher(readme);
        boolean found = row.find();
        CHECKS.due("rows of the table for " + method.getName(), found ? 1 : 0, 1);
        if (found) {
            int count = row.group(1).isEmpty() ? 0 : row.group(1).split(", ").length;
            CHECKS.due("numbers that " + method.getName() + " is told with", count, method.getParameterCount());
            boolean refused = answerOfANewOne(method) == NetWalkers.STATE;
            CHECKS.due(method.getName() + " is marked as one that asks for a ready net", row.group(2) != null ? 1 : 0, refused ? 1 : 0);
        }
    }

    /** A new object's net is not ready. */
    private static int answerOfANewOne(Method method) throws ReflectiveOperationException {
        Object[] numbers = new Object[method.getParameterCount()];
        for (int k = 0; k < numbers.length; k++) {
            boolean truth = method.getParameterTypes()[k] == boolean.class;
            numbers[k] = truth ? (Object) Boolean.FALSE : (Object) Integer.valueOf(0);
        }
        return (Integer) method.invoke(new NetWalkers(), numbers);
    }
}
