import java.io.IOException;
import java.lang.reflect.Method;
import java.nio.file.Files;
import java.nio.file.Path;
import java.util.HashMap;
import java.util.Map;
import java.util.regex.Matcher;
import java.util.regex.Pattern;

/** The answers that README.md tells of its calls; run at the root of the project. */
public final class ReadmeTest {
    private static final Pattern MADE = Pattern.compile("CarryFair (\\w+) = new CarryFair\\(\\);");
    private static final Pattern CALL = Pattern.compile("(\\w+)\\.(\\w+)\\(([-0-9, ]*)\\); +// (-?\\d+).*");

    public static void main(String[] args) throws IOException, ReflectiveOperationException {
        Map<String, CarryFair> objects = new HashMap<>();
        int calls = 0;
        for (String line : Files.readAllLines(Path.of("README.md"))) {
            Matcher made = MADE.matcher(line);
            Matcher call = CALL.matcher(line);
            if (made.matches()) {
                objects.put(made.group(1), new CarryFair());
            } else if (call.matches()) {
                calls++;
                Due.is(line, answer(objects.get(call.group(1)), call.group(2), call.group(3)), Integer.parseInt(call.group(4)));
            }
        }
        Due.is("calls told", calls, 25);
        Due.end();
    }

    private static int answer(CarryFair x, String name, String list) throws ReflectiveOperationException {
        String[] told = list.isEmpty() ? new String[0] : list.split(", ");
        Class<?>[] kinds = new Class<?>[told.length];
        Object[] arguments = new Object[told.length];
        for (int i = 0; i < told.length; i++) {
            kinds[i] = int.class;
            arguments[i] = Integer.valueOf(told[i]);
        }
        Method call = CarryFair.class.getMethod(name, kinds);
        return (int) call.invoke(x, arguments);
    }
}
