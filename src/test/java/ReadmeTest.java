import java.lang.reflect.Method;
import java.nio.file.Files;
import java.nio.file.Path;
import java.util.Arrays;
import java.util.HashSet;
import java.util.List;
import java.util.Set;
import java.util.regex.Matcher;
import java.util.regex.Pattern;

/** The answers that README.md tells behind its calls, and that it names every call and every constant. */
public final class ReadmeTest {

    private static final Pattern CALL = Pattern.compile("bench\\.(\\w+)\\(([-\\d, ]*)\\);\\s+// (\\S+)");

    public static void main(String[] args) throws ReflectiveOperationException, java.io.IOException {
        List<String> lines = Files.readAllLines(Path.of("README.md"));
        examples(lines);
        String page = String.join("\n", lines);
        for (Method method : ShiftWorkbench.class.getMethods()) {
            if (method.getDeclaringClass() == ShiftWorkbench.class) {
                isTold(page, "`" + method.getName() + "`");
            }
        }
        for (java.lang.reflect.Field constant : ShiftWorkbench.class.getFields()) {
            isTold(page, constant.getName());
        }
        Due.end();
    }

    private static void isTold(String page, String word) {
        Due.is("README.md names " + word, page.contains(word) ? 1 : 0, 1);
    }

    private static void examples(List<String> lines) throws ReflectiveOperationException {
        ShiftWorkbench bench = null;
        int objects = 0;
        int calls = 0;
        Set<String> answers = new HashSet<>();
        for (String line : lines) {
            Matcher call = CALL.matcher(line);
            if (line.equals("ShiftWorkbench bench = new ShiftWorkbench();")) {
                bench = new ShiftWorkbench();
                objects++;
            } else if (call.matches()) {
                Due.is("README.md: " + line, answer(bench, call.group(1), call.group(2)), told(call.group(3)));
                answers.add(call.group(3));
                calls++;
            } else {
                Due.is("README.md: a call that is not told in the usual way: " + line,
                        line.startsWith("bench.") ? 1 : 0, 0);
            }
        }
        Due.is("README.md: objects", objects, 4);
        Due.is("README.md: there are calls", calls > 0 ? 1 : 0, 1);
        for (java.lang.reflect.Field constant : ShiftWorkbench.class.getFields()) {
            Due.is("README.md: a call answers " + constant.getName(), answers.contains(constant.getName()) ? 1 : 0, 1);
        }
    }

    private static long told(String answer) throws ReflectiveOperationException {
        boolean isName = Character.isLetter(answer.charAt(0));
        return isName ? ShiftWorkbench.class.getField(answer).getInt(null) : Long.parseLong(answer);
    }

    private static long answer(ShiftWorkbench bench, String name, String list) throws ReflectiveOperationException {
        Object[] numbers = list.isEmpty() ? new Object[0]
                : Arrays.stream(list.split(", ")).map(Integer::valueOf).toArray();
        Class<?>[] types = new Class<?>[numbers.length];
        Arrays.fill(types, int.class);
        return ((Number) ShiftWorkbench.class.getMethod(name, types).invoke(bench, numbers)).longValue();
    }
}
