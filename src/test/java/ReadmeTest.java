import java.io.IOException;
import java.lang.reflect.Field;
import java.lang.reflect.Method;
import java.lang.reflect.Modifier;
import java.nio.file.DirectoryStream;
import java.nio.file.Files;
import java.nio.file.Path;
import java.util.ArrayList;
import java.util.HashMap;
import java.util.List;
import java.util.Map;
import java.util.TreeSet;
import java.util.regex.Matcher;
import java.util.regex.Pattern;

/** That README.md says what is so: its example, line by line, and what it must name. */
public final class ReadmeTest extends Tests {
  private static final Path PAGE = Path.of("README.md");
  private static final Path OWN_TESTS = Path.of("src/test/java");
  private static final String FIRST_LINE = "CallMelt x = new CallMelt();";
  // One call a line, of numbers and names of lines above it, and what it answers.
  private static final Pattern LINE =
      Pattern.compile("(?:int (\\w+) = )?x\\.(\\w+)\\(([-\\w, ]*)\\); +// (-?\\d+)(:.*)?");

  public static void main(String[] args) throws ReflectiveOperationException {
    runAll(ReadmeTest.class);
  }

  private static void theExampleAnswersWhatItSays() throws IOException, ReflectiveOperationException {
    says("README.md: An example");
    List<String> lines = example();
    due("README.md's example begins", lines.isEmpty() ? "" : lines.get(0), FIRST_LINE);
    CallMelt x = new CallMelt();
    Map<String, Integer> named = new HashMap<>();
    for (String line : lines.subList(Math.min(1, lines.size()), lines.size())) {
      Matcher parts = LINE.matcher(line);
      if (!parts.matches()) {
        due("README.md's example", line, "a call and its answer");
        continue;
      }
      int got = answer(x, parts.group(2), parts.group(3), named);
      due(line, got, Integer.parseInt(parts.group(4)));
      if (parts.group(1) != null) {
        named.put(parts.group(1), got);
      }
    }
  }

  private static void thePageNamesTheWholeFace() throws IOException {
    says("README.md: What the calls are for");
    String page = Files.readString(PAGE);
    for (Method method : CallMelt.class.getDeclaredMethods()) {
      if (Modifier.isPublic(method.getModifiers())) {
        due(method.getName() + "() is named", page.contains("`" + method.getName() + "(") ? 1 : 0, 1);
      }
    }
    for (Field field : CallMelt.class.getFields()) {
      due(field.getName() + " is named", page.contains("`" + field.getName() + "`") ? 1 : 0, 1);
    }
  }

  private static void thePageNamesEveryTest() throws IOException {
    says("README.md: Tests");
    TreeSet<String> named = new TreeSet<>();
    Matcher names = Pattern.compile("`(\\w+Test)`").matcher(Files.readString(PAGE));
    while (names.find()) {
      named.add(names.group(1) + ".java");
    }
    TreeSet<String> there = new TreeSet<>();
    try (DirectoryStream<Path> files = Files.newDirectoryStream(OWN_TESTS, "*Test.java")) {
      for (Path file : files) {
        there.add(file.getFileName().toString());
      }
    }
    due("the tests", named.toString(), there.toString());
  }

  private static List<String> example() throws IOException {
    List<String> lines = new ArrayList<>();
    boolean inside = false;
    for (String line : Files.readAllLines(PAGE)) {
      if (line.startsWith("```")) {
        inside = line.equals("```java");
      } else if (inside) {
        lines.add(line);
      }
    }
    return lines;
  }

  private static int answer(CallMelt x, String call, String list, Map<String, Integer> named)
      throws ReflectiveOperationException {
    String[] words = list.isEmpty() ? new String[0] : list.split(", ");
    Object[] handed = new Object[words.length];
    Class<?>[] types = new Class<?>[words.length];
    for (int i = 0; i < words.length; i++) {
      handed[i] = named.containsKey(words[i]) ? named.get(words[i]) : Integer.valueOf(words[i]);
      types[i] = int.class;
    }
    return (Integer) CallMelt.class.getMethod(call, types).invoke(x, handed);
  }
}
