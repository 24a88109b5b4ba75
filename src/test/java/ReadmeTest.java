import java.io.IOException;
import java.lang.reflect.InvocationTargetException;
import java.lang.reflect.Method;
import java.nio.file.Files;
import java.nio.file.Path;
import java.util.TreeSet;
import java.util.regex.Matcher;
import java.util.regex.Pattern;

/** The example in README.md gives the answers that stand beside it, and uses every public method. */
public final class ReadmeTest {
    private static final Pattern CALL = Pattern.compile("board\\.(\\w+)\\(([^)]*)\\);\\s*// (-?\\d+)(:.*)?");

    public static void main(String[] args) throws IOException, ReflectiveOperationException {
        BridgeBoard board = new BridgeBoard();
        TreeSet<String> unused = new TreeSet<>();
        for (Method method : BridgeBoard.class.getMethods()) {
            if (method.getDeclaringClass() == BridgeBoard.class) {
                unused.add(method.getName());
            }
        }
        int wrong = 0;
        for (String line : Files.readAllLines(Path.of("README.md"))) {
            if (!line.startsWith("board.")) {
                continue;
            }
            Matcher call = CALL.matcher(line);
            // A line that can't be read must not pass for one that holds.
            if (!call.matches()) {
                wrong++;
                System.out.println("not a call with its answer: " + line);
                continue;
            }
            unused.remove(call.group(1));
            int got = answer(board, call.group(1), call.group(2));
            if (got != Integer.parseInt(call.group(3))) {
                wrong++;
                System.out.println("answered " + got + ": " + line);
            }
        }
        if (wrong != 0 || !unused.isEmpty()) {
            System.out.println(wrong + " wrong lines, calls without an example: " + unused);
            System.exit(1);
        }
        System.out.println("the example is as due");
    }

    private static int answer(BridgeBoard board, String name, String text)
            throws IllegalAccessException, InvocationTargetException, NoSuchMethodException {
        String[] words = text.isEmpty() ? new String[0] : text.split(", ");
        Class<?>[] types = new Class<?>[words.length];
        Object[] values = new Object[words.length];
        for (int i = 0; i < words.length; i++) {
            boolean isTruth = words[i].equals("true") || words[i].equals("false");
            types[i] = isTruth ? boolean.class : int.class;
            values[i] = isTruth ? (Object) Boolean.valueOf(words[i]) : (Object) Integer.valueOf(words[i]);
        }
        return (int) BridgeBoard.class.getMethod(name, types).invoke(board, values);
    }
}
