import java.io.IOException;
import java.nio.file.Files;
import java.nio.file.Path;
import java.util.Arrays;
import java.util.regex.Matcher;
import java.util.regex.Pattern;

/** The calls that README.md tells as an example, asked one by one of a new object; run from the project's directory. */
public final class ReadmeTests {
    private static final Pattern CALL = Pattern.compile("g\\.(\\w+)\\(([^)]*)\\);\\s*// (-?\\d+)(:.*)?");

    public static void main(String[] args) throws IOException, ReflectiveOperationException {
        GapPieces g = new GapPieces();
        int asked = 0;
        int wrong = 0;
        boolean inExample = false;
        for (String line : Files.readAllLines(Path.of("README.md"))) {
            if (line.startsWith("```")) {
                inExample = line.equals("```java");
            } else if (inExample && !line.isBlank() && !line.equals("GapPieces g = new GapPieces();")) {
                asked++;
                wrong += isDue(g, line) ? 0 : 1;
            }
        }
        // An example that isn't found any more would pass unasked.
        if (asked == 0) {
            System.out.println("README.md tells no call");
            wrong++;
        }
        System.out.println("ReadmeTests: " + asked + " calls, " + wrong + " wrong");
        if (wrong != 0) {
            System.exit(1);
        }
    }

    private static boolean isDue(GapPieces g, String line) throws ReflectiveOperationException {
        Matcher call = CALL.matcher(line);
        if (!call.matches()) {
            System.out.println("no call with its answer: " + line);
            return false;
        }
        Object[] numbers = Arrays.stream(call.group(2).split(",")).map(text -> Integer.valueOf(text.strip())).toArray();
        Class<?>[] types = new Class<?>[numbers.length];
        Arrays.fill(types, int.class);
        Object got = GapPieces.class.getMethod(call.group(1), types).invoke(g, numbers);
        if (!got.equals(Integer.valueOf(call.group(3)))) {
            System.out.println(line + " answered " + got);
            return false;
        }
        return true;
    }
}
