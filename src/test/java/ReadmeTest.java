import java.io.IOException;
import java.lang.reflect.InvocationTargetException;
import java.lang.reflect.Method;
import java.lang.reflect.Modifier;
import java.nio.file.Files;
import java.nio.file.Path;
import java.util.List;
import java.util.Set;
import java.util.TreeSet;
import java.util.regex.Matcher;
import java.util.regex.Pattern;

/** The run of calls that README.md shows, taken from that file: each call answers what stands behind it there. */
public final class ReadmeTest {
    private static final String FIRST = "WhilePress press = new WhilePress();";
    // A call, its arguments, and its answer up to a colon.
    private static final Pattern CALL = Pattern.compile("press\\.(\\w+)\\((.*)\\); +// (throws \\w+|-?\\w+)(:.*)?");
    private static final Pattern SHOWN_BYTES = Pattern.compile(": \"(.*)\"");

    public static void main(String[] args) throws IOException, IllegalAccessException {
        Path readme = Path.of("README.md");
        if (Files.exists(readme)) {
            goThrough(Files.readAllLines(readme));
        } else {
            Press.dueText("README.md", "is not there", "at the root of the project");
        }
        Press.end("ReadmeTest");
    }

    private static void goThrough(List<String> lines) throws IllegalAccessException {
        WhilePress press = new WhilePress();
        Set<String> shown = new TreeSet<>();
        int at = lines.indexOf(FIRST) + 1;
        Press.due("README.md has a run of calls", at > 0 ? 1 : 0, 1);
        while (at > 0 && at < lines.size() && !lines.get(at).equals("```")) {
            Matcher call = CALL.matcher(lines.get(at));
            if (call.matches()) {
                shown.add(call.group(1));
                Press.dueText(lines.get(at), answer(press, call.group(1), call.group(2)), call.group(3));
                lookAtBytes(call);
            } else {
                Press.dueText(lines.get(at), "is no call", "a call with its answer");
            }
            at++;
        }
        Press.dueText("the calls that README.md shows", shown.toString(), names().toString());
    }

    private static Set<String> names() {
        Set<String> names = new TreeSet<>();
        for (Method method : WhilePress.class.getDeclaredMethods()) {
            if (Modifier.isPublic(method.getModifiers())) {
                names.add(method.getName());
            }
        }
        return names;
    }

    /** The bytes that stand behind a feed are those that it feeds. */
    private static void lookAtBytes(Matcher call) {
        if (!call.group(1).equals("feed")) {
            return;
        }
        Matcher bytes = SHOWN_BYTES.matcher(call.group(4) == null ? "" : call.group(4));
        String[] arguments = call.group(2).split(", ");
        long row = Long.decode(arguments[0].replace("L", ""));
        StringBuilder fed = new StringBuilder();
        for (int k = 0; k < Integer.parseInt(arguments[1]); k++) {
            fed.append((char) (row >>> 8 * k & 255));
        }
        Press.dueText("the bytes of " + call.group(), bytes.matches() ? bytes.group(1) : "not shown", fed.toString());
    }

    private static String answer(WhilePress press, String name, String arguments) throws IllegalAccessException {
        for (Method method : WhilePress.class.getDeclaredMethods()) {
            if (method.getName().equals(name)) {
                try {
                    return "" + method.invoke(press, values(method.getParameterTypes(), arguments));
                } catch (InvocationTargetException e) {
                    return "throws " + e.getCause().getClass().getSimpleName();
                }
            }
        }
        return "is no call of the class";
    }

    private static Object[] values(Class<?>[] types, String arguments) {
        Object[] values = new Object[types.length];
        String[] written = arguments.isEmpty() ? new String[0] : arguments.split(", ");
        for (int k = 0; k < values.length && k < written.length; k++) {
            if (types[k] == boolean.class) {
                values[k] = Boolean.valueOf(written[k]);
            } else if (types[k] == long.class) {
                values[k] = Long.decode(written[k].replace("L", ""));
            } else {
                values[k] = Integer.decode(written[k]);
            }
        }
        return values;
    }
}
