import java.nio.file.Files;
import java.nio.file.Path;
import java.util.ArrayList;
import java.util.List;
import java.util.regex.Matcher;
import java.util.regex.Pattern;

/** README.md names every call of the face as the document does, and its example answers as it says. */
public final class ReadmeTest extends Sentences {
    private static int missing = 0;

    public static void main(String[] args) throws Exception {
        String readme = Files.readString(Path.of("README.md"));
        String document = Files.readString(Path.of("../shared/DOC.md"));
        names(readme, document);
        example(readme);
        if (missing != 0) {
            System.exit(1);
        }
        end("README.md");
    }

    private static void names(String readme, String document) {
        Matcher m = Pattern.compile("## Promise (\\d+): \\w[^\n]*\\s+`(?:int )?([^`]*)`").matcher(document);
        int found = 0;
        while (m.find()) {
            found++;
            String call = (m.group(1).equals("1") ? "new " : "") + m.group(2).replaceAll("int ", "");
            if (!Pattern.compile("\\| `" + Pattern.quote(call) + "` \\| [^\n]* \\| " + m.group(1) + " \\|").matcher(readme).find()) {
                missing++;
                System.out.println("README.md has no row for promise " + m.group(1) + ", " + call);
            }
        }
        if (found != 41) {
            missing++;
            System.out.println("found " + found + " promises in the document");
        }
        for (String told : new String[] {"`GiftTable.NONE` (-1)", "at most 512 calls", "| -1 |", "| -2 |", "| -3 |", "| -5 |",
            "| -6 |", ".ci/run"}) {
            if (!readme.contains(told)) {
                missing++;
                System.out.println("README.md does not tell " + told);
            }
        }
    }

    private static void example(String readme) {
        List<String> rows = new ArrayList<>();
        Matcher m = Pattern.compile("(?m)^x\\.(.*\\));\\s+// (-?\\d+)(?::.*)?$").matcher(readme);
        while (m.find()) {
            rows.add(m.group(1) + " -> " + m.group(2));
        }
        int calls = readme.split("\nx\\.", -1).length - 1;
        if (rows.size() != calls || calls == 0) {
            missing++;
            System.out.println("README.md: " + rows.size() + " answers to " + calls + " calls");
        }
        says(1, "An object is used for at most 512 calls after it has been made", (Object[]) rows.toArray(new String[0]));
    }
}
