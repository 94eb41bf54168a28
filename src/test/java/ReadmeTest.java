import java.nio.file.Files;
import java.nio.file.Path;
import java.util.Set;
import java.util.TreeSet;
import java.util.regex.Matcher;
import java.util.regex.Pattern;

/** README.md shows no answer that the class does not give, and names each call of the face. */
public final class ReadmeTest {
    private static final Pattern TEXT = Pattern.compile("String text = \"([^\"]*)\";");
    private static final Pattern ROW = Pattern.compile("(?m)^x\\.(\\w+)\\(([^)]*)\\);\\s+// (-?\\d+|BAD|STATE|FULL|NONE)\\b");

    private final Due due = new Due();

    public static void main(String[] args) throws Exception {
        ReadmeTest t = new ReadmeTest();
        String readme = Files.readString(Path.of("README.md"));
        t.example(readme);
        t.namesEachCall(readme);
        t.due.finish("ReadmeTest");
    }

    private void example(String readme) {
        Matcher text = TEXT.matcher(readme);
        due.is("README.md has a text", text.find() ? 1 : 0, 1);
        Run run = Run.of(due, "README.md", "", "type " + text.group(1));
        int rows = 0;
        for (Matcher row = ROW.matcher(readme); row.find(); rows++) {
            String numbers = row.group(2).isEmpty() ? "" : " " + row.group(2).replace(",", "");
            run.then(row.group(1) + numbers + " = " + row.group(3));
        }
        due.is("rows of README.md that begin with x.", rows, readme.split("\nx\\.", -1).length - 1);
    }

    private void namesEachCall(String readme) {
        Set<String> missing = new TreeSet<>();
        for (var method : BoardPress.class.getMethods()) {
            if (method.getDeclaringClass() == BoardPress.class && !readme.contains("`" + method.getName() + "`")) {
                missing.add(method.getName());
            }
        }
        due.is("calls that README.md does not name: " + missing, missing.size(), 0);
    }
}
