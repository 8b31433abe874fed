import java.io.IOException;
import java.nio.file.Files;
import java.nio.file.Path;
import java.util.regex.Matcher;
import java.util.regex.Pattern;

/** The calls that README.md shows, each with the answer behind it; -Dproject, or here, is where it is. */
public final class ReadmeTest {
    private static final Pattern CALL = Pattern.compile("(?m)^maps\\.(.+\\)); *// (-?\\d+)");

    public static void main(String[] args) throws IOException {
        String readme = Files.readString(Path.of(System.getProperty("project", "."), "README.md"));
        StringBuilder script = new StringBuilder();
        Matcher call = CALL.matcher(readme);
        while (call.find()) {
            script.append(call.group(1)).append(" = ").append(nameOf(call.group(2))).append('\n');
        }
        if (script.length() == 0 || script.toString().lines().count() != readme.split("\nmaps\\.").length - 1) {
            Script.fail("README", "not every call has its answer behind it");
        }
        Script.run("README", script.toString());
        Script.end();
    }

    /** Scripts count ERRORS by their names. */
    private static String nameOf(String answer) {
        switch (answer) {
            case "-1000000002":
                return "NONE";
            case "-1000000003":
                return "STATE";
            default:
                return answer;
        }
    }
}
