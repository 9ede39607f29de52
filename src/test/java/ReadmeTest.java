import java.io.IOException;
import java.lang.reflect.Method;
import java.lang.reflect.Modifier;
import java.nio.file.Files;
import java.nio.file.Path;
import java.util.regex.Matcher;
import java.util.regex.Pattern;

/** What README.md says of the class: the calls of its example answer so, and it names every call. */
public final class ReadmeTest {
    private static final Pattern CALL = Pattern.compile("house\\.(\\w+)\\(([^)]*)\\); +// (-?\\w+).*");

    public static void main(String[] args) throws IOException {
        String text = Files.readString(Path.of("README.md"));
        StringBuilder example = new StringBuilder();
        for (String line : text.split("\n")) {
            Matcher call = CALL.matcher(line);
            if (call.matches()) {
                example.append(call.group(1)).append(' ').append(call.group(2).replace(",", ""))
                        .append(" -> ").append(call.group(3)).append('\n');
            } else {
                Check.due("an answer stands behind " + line, !line.startsWith("house."), true);
            }
        }
        Edge.test("the example in README.md", example.toString());
        for (Method call : ToteHouse.class.getDeclaredMethods()) {
            if (Modifier.isPublic(call.getModifiers())) {
                Check.due("README.md names " + call.getName(), text.contains("`" + call.getName() + "("), true);
            }
        }
        Edge.end();
    }
}
