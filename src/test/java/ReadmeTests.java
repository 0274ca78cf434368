import java.io.IOException;
import java.lang.reflect.InvocationTargetException;
import java.lang.reflect.Method;
import java.nio.file.Files;
import java.nio.file.Path;
import java.util.ArrayList;
import java.util.List;
import java.util.Set;
import java.util.TreeSet;
import java.util.regex.Matcher;
import java.util.regex.Pattern;

/** That README.md tells the truth: the calls of its example, and its tables of calls. */
public final class ReadmeTests {
    private static final Path FILE = Path.of("README.md");
    private static final Pattern TYPED = Pattern.compile("type\\(x, \"(.*)\"\\);.*");
    private static final Pattern CALL =
            Pattern.compile("x\\.(\\w+)\\((.*)\\); +// (throws \\w+|-?[0-9.]*[0-9]).*");
    private static final Pattern ROW =
            Pattern.compile("\\| `(\\w+)\\((.*)\\)` \\| .+ \\| ?([a-z, ]*?) ?\\|");

    public static void main(String[] args) throws IOException, ReflectiveOperationException {
        List<String> lines = Files.readAllLines(FILE);
        exampleAnswersWhatItTells(lines);
        tablesNameEachCall(lines);
        Check.end();
    }

    private static Method methodOf(String name) {
        for (Method method : LadderMakers.class.getMethods()) {
            if (method.getName().equals(name) && method.getDeclaringClass() == LadderMakers.class) {
                return method;
            }
        }
        return null;
    }

    // ---- the example

    private static void exampleAnswersWhatItTells(List<String> lines)
            throws ReflectiveOperationException {
        int begin = lines.indexOf("```java");
        int end = lines.indexOf("```");
        Check.isTrue("there is an example", begin >= 0 && end > begin + 2);
        Check.isTrue("it begins with a new object",
                lines.get(begin + 1).equals("LadderMakers x = new LadderMakers();"));
        LadderMakers x = new LadderMakers();
        for (String line : lines.subList(begin + 2, end)) {
            if (!line.isEmpty()) {
                play(x, line);
            }
        }
    }

    private static void play(LadderMakers x, String line) throws ReflectiveOperationException {
        Matcher typed = TYPED.matcher(line);
        Matcher call = CALL.matcher(line);
        if (typed.matches()) {
            Makers.type(x, typed.group(1));
        } else if (call.matches()) {
            String got = answerOf(x, methodOf(call.group(1)), call.group(2));
            Check.isTrue("'" + line + "' answered " + got + ", that this", got.equals(call.group(3)));
        } else {
            Check.isTrue("'" + line + "' is typed, or called with an answer,", false);
        }
    }

    private static String answerOf(LadderMakers x, Method method, String text)
            throws ReflectiveOperationException {
        List<Object> arguments = new ArrayList<>();
        for (String argument : text.isEmpty() ? new String[0] : text.split(", ")) {
            boolean isFlag = argument.equals("true") || argument.equals("false");
            arguments.add(isFlag ? (Object) argument.equals("true") : Integer.valueOf(argument));
        }
        try {
            return "" + method.invoke(x, arguments.toArray());
        } catch (InvocationTargetException thrown) {
            return "throws " + thrown.getCause().getClass().getSimpleName();
        }
    }

    // ---- the tables

    private static void tablesNameEachCall(List<String> lines) {
        Set<String> named = new TreeSet<>();
        for (String line : lines) {
            Matcher row = ROW.matcher(line);
            if (row.matches()) {
                Check.isTrue(row.group(1) + "() is told once", named.add(row.group(1)));
                isTold(row.group(1), row.group(2), row.group(3));
            }
        }
        Set<String> due = new TreeSet<>();
        for (Method method : LadderMakers.class.getMethods()) {
            if (method.getDeclaringClass() == LadderMakers.class) {
                due.add(method.getName());
            }
        }
        Check.isTrue("the tables name " + named + ", that these are " + due, named.equals(due));
    }

    private static void isTold(String name, String parameters, String exceptions) {
        Method method = methodOf(name);
        Check.isTrue("there is a method " + name, method != null);
        if (method != null) {
            int count = parameters.isEmpty() ? 0 : parameters.split(", ").length;
            Check.due("parameters of " + name, count, method.getParameterCount());
            Check.isTrue(name + " throws " + exceptions, exceptions.equals(exceptionsOf(method)));
        }
    }

    private static String exceptionsOf(Method method) {
        List<String> words = new ArrayList<>();
        for (Class<?> thrown : method.getExceptionTypes()) {
            words.add(thrown == Check.NO_INDEX ? "index"
                    : thrown == Check.BAD_ARGUMENT ? "argument" : "state");
        }
        return String.join(", ", words);
    }
}
