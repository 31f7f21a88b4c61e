import java.io.IOException;
import java.lang.reflect.InvocationTargetException;
import java.lang.reflect.Method;
import java.nio.file.Files;
import java.nio.file.Path;
import java.util.ArrayList;
import java.util.HashMap;
import java.util.List;
import java.util.Map;
import java.util.TreeSet;
import java.util.stream.Stream;

/** What README.md says is so: its quotes, its tables of calls, the answers of its example, its list of tests. */
public final class ReadmeTest {
  private static final String ROW_OF_CALL = "\\| `\\w+ ?\\w*\\(.*";
  private static final String ROW_OF_TEST = "\\| `\\w+Test` .*";

  private static List<String> readme;
  private static List<String> document;

  public static void main(String[] args) throws IOException, ReflectiveOperationException {
    readme = Files.readAllLines(Path.of("README.md"));
    document = Files.readAllLines(Path.of("../shared/DOC.md"));
    quotes();
    calls();
    example();
    tests();
    Check.end("ReadmeTest");
  }

  /** Blanks and ends of rows in the document count as one blank. */
  private static void quotes() {
    String all = String.join(" ", document).replaceAll("\\s+", " ");
    int quotes = 0;
    for (String line : readme) {
      if (line.startsWith("> ")) {
        quotes++;
        Check.due("stands in the document: " + line, all.contains(line.substring(2)), true);
      }
    }
    Check.due("there are quotes", quotes > 0, true);
  }

  // ---- the tables of the calls

  private static void calls() {
    List<String> want = new ArrayList<>();
    List<String> promise = new ArrayList<>();
    for (String line : document) {
      if (line.startsWith("#") && !promise.isEmpty()) {
        want.add(rowOf(promise));
        promise.clear();
      }
      if (line.startsWith("## Promise ") || !promise.isEmpty()) {
        promise.add(line);
      }
    }
    List<String> got = new ArrayList<>(readme);
    got.removeIf(line -> !line.matches(ROW_OF_CALL));
    Check.due("rows of calls", got, want);
    Check.due("promises", want.size(), 45);
  }

  private static String rowOf(List<String> promise) {
    String call = "";
    String answers = "";
    List<String> does = new ArrayList<>();
    List<String> arguments = new ArrayList<>();
    List<String> exceptions = new ArrayList<>();
    for (String line : promise) {
      if (line.startsWith("`")) {
        call = line.replaceAll("`| throws .*", "");
      } else if (line.startsWith("- ")) {
        arguments.add(line.substring(2));
      } else if (line.startsWith("Returns ")) {
        answers = line.substring(8);
      } else if (line.startsWith("Throws ")) {
        exceptions.add(line.substring(7));
      } else if (!line.isEmpty() && !line.startsWith("#") && !line.startsWith("----")) {
        does.add(line);
      }
    }
    does.add(String.join("; ", arguments));
    return ("| `" + call + "` | " + String.join(" ", does).trim() + " | " + answers + " | "
        + String.join("; ", exceptions) + " |").replaceAll(" +", " ");
  }

  // ---- the example

  private static void example() throws ReflectiveOperationException {
    Map<String, Method> face = new HashMap<>();
    for (Method method : Twostacks.class.getDeclaredMethods()) {
      face.put(method.getName(), method);
    }
    List<String> rows = readme.subList(readme.indexOf("```java") + 1, readme.lastIndexOf("```"));
    Check.due("the example's first row", rows.get(0), "Twostacks x = new Twostacks();");
    Twostacks x = new Twostacks();
    for (String row : rows.subList(1, rows.size())) {
      Check.due("a call with its answer: " + row, row.matches("x\\.\\w+\\(.*\\); +// .+"), true);
      Method method = face.get(row.substring(2, row.indexOf('(')));
      Check.due("example " + row, answer(x, method, row.substring(row.indexOf('(') + 1, row.indexOf(')'))),
          row.substring(row.indexOf("// ") + 3).replaceAll(": .*", ""));
    }
  }

  private static String answer(Twostacks x, Method method, String inside) throws ReflectiveOperationException {
    String[] words = inside.isEmpty() ? new String[0] : inside.split(", ");
    Object[] arguments = new Object[words.length];
    for (int i = 0; i < words.length; i++) {
      boolean isTruth = method.getParameterTypes()[i] == boolean.class;
      arguments[i] = isTruth ? (Object) Boolean.valueOf(words[i]) : (Object) Integer.valueOf(words[i]);
    }
    try {
      Object got = method.invoke(x, arguments);
      return got instanceof String ? "\"" + got + "\"" : "" + got;
    } catch (InvocationTargetException e) {
      return "throws " + e.getCause().getClass().getSimpleName();
    }
  }

  // ---- how the tests are run

  private static void tests() throws IOException {
    TreeSet<String> there = new TreeSet<>();
    try (Stream<Path> files = Files.list(Path.of("src/test/java"))) {
      files.forEach(file -> there.add(file.getFileName().toString().replace(".java", "")));
    }
    there.removeIf(name -> !name.endsWith("Test"));
    TreeSet<String> told = new TreeSet<>();
    for (String line : readme) {
      if (line.matches(ROW_OF_TEST)) {
        told.add(line.substring(3, line.indexOf('`', 3)));
      }
    }
    Check.due("the tests that README.md names", told, there);
    Check.due("it says .ci/run", readme.contains("    .ci/run"), true);
    Check.due(".ci/run can be run", Files.isExecutable(Path.of(".ci/run")), true);
  }
}
