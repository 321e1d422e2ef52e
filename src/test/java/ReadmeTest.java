import java.io.IOException;
import java.nio.file.Files;
import java.nio.file.Path;
import java.util.ArrayList;
import java.util.List;
import java.util.regex.Matcher;
import java.util.regex.Pattern;
import java.util.stream.Stream;

/** What README.md says: the answers of its example, the calls, the constants, the tests; run from the project's root. */
public final class ReadmeTest extends Sheet {
  private static final Path DOCUMENT = Path.of("../shared/DOC.md");
  private static final Path TESTS = Path.of("src/test/java");

  public static void main(String[] args) throws IOException {
    String readme = Files.readString(Path.of("README.md"));
    example(readme);
    calls(readme);
    constants(readme);
    tests(readme);
    finish();
  }

  private static void example(String readme) {
    Pattern begin = Pattern.compile("^ +BlackGlass x = new BlackGlass\\(\\);$");
    Pattern text = Pattern.compile("^ +write\\(x, \"(.*)\"\\);$");
    Pattern call = Pattern.compile("^ +x\\.([a-z]+)\\((.*)\\); +// (-?[0-9]+)(: .*)?$");
    BlackGlass x = null;
    int made = 0;
    for (String line : readme.split("\n")) {
      Matcher told = text.matcher(line), asked = call.matcher(line);
      if (begin.matcher(line).matches()) x = new BlackGlass();
      if (x != null && told.matches()) write(x, told.group(1));
      if (x != null && asked.matches()) {
        about(line.trim());
        due(Long.parseLong(asked.group(3)), Calls.make(x, new Calls.Step(asked.group(1), arguments(asked.group(1), asked.group(2)))));
        made++;
      }
      // A call whose answer isn't told, or not so that it is seen here, would be tested by nothing.
      if (x != null && line.matches("^ +x\\..*") && !asked.matches()) fail("no answer is seen in: " + line);
    }
    about("the example is there");
    due(1, made > 30 ? 1 : 0);
  }

  private static Object[] arguments(String name, String words) {
    List<Object> all = new ArrayList<>();
    for (String word : words.isEmpty() ? new String[0] : words.split(", ")) {
      if (word.matches("true|false")) all.add(word.equals("true"));
      else if (name.equals("write") && all.isEmpty()) all.add(Long.parseLong(word.replace("L", "")));
      else all.add(number(word));
    }
    return all.toArray();
  }

  private static int number(String word) {
    int together = 0;
    for (String part : word.split(" \\| ")) {
      String[] shifted = part.split(" << ");
      together |= Integer.parseInt(shifted[0]) << (shifted.length > 1 ? Integer.parseInt(shifted[1]) : 0);
    }
    return together;
  }

  /** Each call that the document promises stands in the table as the document writes it, and no other one. */
  private static void calls(String readme) throws IOException {
    about("31 calls are told");
    due(31, Pattern.compile("\n\\| `int ").matcher(readme).results().count());
    if (!Files.exists(DOCUMENT)) return;
    Matcher promised = Pattern.compile("\n`(int [a-z]+\\([^`]*\\))`: ").matcher(Files.readString(DOCUMENT));
    int many = 0;
    while (promised.find()) {
      about(promised.group(1));
      due(1, readme.contains("\n| `" + promised.group(1) + "` | ") ? 1 : 0);
      many++;
    }
    about("31 calls are promised");
    due(31, many);
  }

  private static void constants(String readme) {
    int[] all = {BlackGlass.NONE, BlackGlass.UNKNOWN, BlackGlass.OUTSIDE, BlackGlass.NOT, BlackGlass.FULL};
    String[] names = {"NONE", "UNKNOWN", "OUTSIDE", "NOT", "FULL"};
    for (int i = 0; i < all.length; i++) {
      about(names[i]);
      due(1, readme.contains("\n| `" + names[i] + "` | " + all[i] + " | ") ? 1 : 0);
    }
  }

  private static void tests(String readme) throws IOException {
    try (Stream<Path> files = Files.list(TESTS)) {
      for (Path file : files.toList()) {
        String name = file.getFileName().toString().replace(".java", "");
        about(name + " is told of");
        due(1, readme.contains("`" + name + "`") ? 1 : 0);
      }
    }
  }
}
