import java.lang.reflect.Method;
import java.nio.file.Files;
import java.nio.file.Paths;
import java.util.regex.Matcher;
import java.util.regex.Pattern;

/** README.md tells of the class as it is: its calls, its ERRORS, and the run that it shows. */
public final class ReadmeTest {
    private static final String[] ERRORS = {"BEYOND", "NONE", "STATE", "FULL", "KIND", "PARTED"};

    public static void main(String[] args) throws Exception {
        Due due = new Due();
        String readme = textOf("README.md");
        shownRun(due, readme);
        calls(due, readme);
        refusals(due, readme);
        due.is("it says how the tests are run", readme.contains("\n.ci/run\n") ? 1 : 0, 1);
        due.end();
    }

    private static String textOf(String file) throws Exception {
        return new String(Files.readAllBytes(Paths.get(file)), "UTF-8");
    }

    /** Each row of the run that says "// answer" is asked of an object, in order. */
    private static void shownRun(Due due, String readme) throws Exception {
        OldBronze x = new OldBronze();
        Matcher row = Pattern.compile("(?m)^x\\.(\\w+)\\(([^)]*)\\); *// (-?\\d+): .+$")
                .matcher(readme);
        int rows = 0;
        while (row.find()) {
            rows++;
            due.is(row.group(), answer(x, row.group(1), row.group(2)),
                    Long.parseLong(row.group(3)));
        }
        due.is("rows that begin with x", rows, all(readme, "(?m)^x\\."));
        due.is("rows were found", rows > 10 ? 1 : 0, 1);
    }

    private static long answer(OldBronze x, String name, String numbers) throws Exception {
        String[] written = numbers.isEmpty() ? new String[0] : numbers.split(", ");
        Method method = named(name);
        Class<?>[] types = method.getParameterTypes();
        Object[] given = new Object[written.length];
        for (int i = 0; i < written.length; i++) {
            long v = Long.parseLong(written[i].replace("L", ""));
            if (types[i] == long.class) {
                given[i] = v;
            } else {
                given[i] = (int) v;
            }
        }
        return (Integer) method.invoke(x, given);
    }

    private static Method named(String name) {
        for (Method method : OldBronze.class.getMethods()) {
            if (method.getName().equals(name)) {
                return method;
            }
        }
        throw new IllegalArgumentException("no call " + name);
    }

    /** The table of calls has the document's face, in its order, each with its arguments. */
    private static void calls(Due due, String readme) throws Exception {
        Matcher face = Pattern.compile("(?m)^    public int (\\w+\\(.*\\));$")
                .matcher(textOf("../shared/DOC.md"));
        Matcher row = Pattern.compile("(?m)^\\| `(\\w+\\(.*?\\))` \\|").matcher(readme);
        int calls = 0;
        while (face.find()) {
            String call = face.group(1).replaceAll("\\b(int|long) ", "");
            String told = row.find() ? row.group(1) : "nothing";
            due.is(call + " stands in README.md as " + told, told.equals(call) ? 1 : 0, 1);
            calls++;
        }
        due.is("calls of the face", calls, 38);
        due.is("no row more", row.find() ? 1 : 0, 0);
    }

    /** The table of ERRORS has each with its number; a row of calls names what its promise does. */
    private static void refusals(Due due, String readme) throws Exception {
        for (int k = 1; k <= ERRORS.length; k++) {
            String row = "\n| " + (Due.LOW - k) + " | " + ERRORS[k - 1] + " | ";
            due.is(row.trim(), readme.contains(row) ? 1 : 0, 1);
        }
        Matcher promise = Pattern.compile("(?m)^`int (\\w+)\\(.*?\\)`: (.*)$")
                .matcher(textOf("../shared/DOC.md"));
        int promises = 0;
        while (promise.find()) {
            promises++;
            String name = promise.group(1);
            for (String error : ERRORS) {
                boolean isDue = promise.group(2).matches(".*\\b" + error + "\\b.*")
                        && !isOnlyAWord(name, error);
                boolean isTold = all(readme, "(?m)^\\| `" + name + "\\(.*\\|[^|]*\\b" + error
                        + "\\b[^|]*\\|$") > 0;
                due.is(name + "() tells " + error, isTold ? 1 : 0, isDue ? 1 : 0);
            }
        }
        due.is("promises", promises, 38);
    }

    /** KIND is an ERROR of as() and move(); elsewhere it is what a THING is. */
    private static boolean isOnlyAWord(String name, String error) {
        return error.equals("KIND") && !name.equals("as") && !name.equals("move");
    }

    private static int all(String text, String form) {
        int all = 0;
        Matcher found = Pattern.compile(form).matcher(text);
        while (found.find()) {
            all++;
        }
        return all;
    }
}
