import java.io.IOException;
import java.lang.reflect.InvocationTargetException;
import java.lang.reflect.Method;
import java.nio.file.Files;
import java.nio.file.Path;
import java.util.ArrayList;
import java.util.Comparator;
import java.util.HashMap;
import java.util.LinkedHashMap;
import java.util.LinkedHashSet;
import java.util.List;
import java.util.Map;
import java.util.Set;
import java.util.TreeMap;
import java.util.stream.Stream;

/**
 * The edges that the document names. The files of src/test/edges quote its sentences; below each
 * stand runs of calls on a new object with the answers that are due there:
 *
 * <pre>
 *   # Promise 2: put                the part of the document
 *   > Puts a THING at an end.       the sentence, which has to stand in that part
 *   ; a remark
 *   for d = -1 4 min max            the run is made once for each value of $d
 *   given 0 = 1..3 7*2              DEQUE 0 has 1 2 3 7 7 (also: given queue, given window)
 *   put($d, 0, 0, 5) throws.IndexOutOfBoundsException
 *   text(0, false) "1..3 7*2"
 * </pre>
 *
 * <p>A blank row ends a run. Each run is made twice: with its calls alone, and with all that can be
 * asked between them. So a call that throws or only asks has to change nothing, one that answers
 * REFUSED nothing but the number of these, and every other one nothing but its own part.
 */
public final class EdgeTest {
  private static final Path DOCUMENT = Path.of("../shared/DOC.md");
  private static final Path EDGES = Path.of("src/test/edges");
  private static final int CALLS = 512;
  private static final Map<String, Method> FACE = new HashMap<>();
  /** What a call may change: a digit is the argument that names the DEQUE; a call that is not here only asks. */
  private static final Map<String, List<String>> CHANGES = changes();

  /** Parts that other tests look at (HouseTest the 512 calls, FaceTest the face), and what is not promised. */
  private static final Set<String> ELSEWHERE =
      Set.of("Twostacks", "What it is", "The public face", "Not promised");
  private static final Map<String, List<String>> WITHOUT_RUNS = Map.of("Description", List.of(
      "Whole numbers.",
      "The constructor and the methods follow, a promise each: the signature, then what it does.",
      "WHAT ALWAYS HOLDS: Whatever was called:"));

  private static final Map<String, String> parts = new LinkedHashMap<>();
  /** For each part of the document the sentences that have runs. */
  private static final Map<String, Set<String>> quoted = new HashMap<>();
  private static int runs = 0;

  public static void main(String[] args) throws IOException, ReflectiveOperationException {
    for (Method method : Twostacks.class.getDeclaredMethods()) {
      FACE.put(method.getName(), method);
    }
    readDocument();
    List<Path> files;
    try (Stream<Path> all = Files.list(EDGES)) {
      files = all.sorted().toList();
    }
    for (Path file : files) {
      readEdges(file);
    }
    allIsQuoted();
    System.out.println("EdgeTest: " + runs + " runs of the edges");
    Check.end("EdgeTest");
  }

  private static Map<String, List<String>> changes() {
    Map<String, List<String>> all = new HashMap<>();
    for (String name : List.of("put", "take", "drop", "sift", "thin", "clear", "turn")) {
      all.put(name, List.of("0"));
    }
    all.put("copy", List.of("1"));
    all.put("pour", List.of("0", "1"));
    all.put("braid", List.of("2"));
    all.put("unbraid", List.of("1", "2"));
    for (String name : List.of("enter", "leave", "front")) {
      all.put(name, List.of("queue"));
    }
    all.put("slide", List.of("window"));
    all.put("width", List.of("window", "WIDTH"));
    for (String name : List.of("gather", "count", "wheel")) {
      all.put(name, List.of("ring"));
    }
    all.put("knock", List.of("knocks"));
    return all;
  }

  // ---- the document and what is quoted of it

  private static void readDocument() throws IOException {
    String part = "";
    for (String line : Files.readAllLines(DOCUMENT)) {
      if (line.startsWith("#")) {
        part = line.replaceAll("^#+ ", "");
      }
      parts.merge(part, line + "\n", String::concat);
    }
  }

  private static void isInDocument(String part, String sentence) {
    Check.due("stands in the document's part '" + part + "': " + sentence,
        parts.getOrDefault(part, "").contains(sentence), true);
  }

  /**
   * Each promise is quoted whole and with runs, but for its signature and the names of its arguments;
   * of the other parts all that is not named here as what no run can show.
   */
  private static void allIsQuoted() {
    int promises = 0;
    for (String part : parts.keySet()) {
      if (!part.startsWith("Promise ")) {
        Check.due("without edges in '" + part + "'", restOf(part), "");
        continue;
      }
      promises++;
      for (String line : parts.get(part).split("\n")) {
        if (!line.isEmpty() && !line.matches("(#|`|----|- `).*")) {
          Check.due("has edges in '" + part + "': " + line,
              quoted.getOrDefault(part, Set.of()).contains(line), true);
        }
      }
    }
    Check.due("promises in the document", promises, 45);
  }

  private static String restOf(String part) {
    String rest = parts.get(part).replaceAll("(?m)^(#|==).*$", "");
    List<String> shown = new ArrayList<>(quoted.getOrDefault(part, Set.of()));
    shown.addAll(WITHOUT_RUNS.getOrDefault(part, List.of()));
    // The longest ones first: a short sentence may stand inside a longer one.
    shown.sort(Comparator.comparing(String::length).reversed());
    for (String sentence : shown) {
      rest = rest.replace(sentence, "");
    }
    return ELSEWHERE.contains(part) ? "" : rest.trim().replaceAll("\\s+", " ");
  }

  // ---- the files of edges

  private static void readEdges(Path file) throws IOException, ReflectiveOperationException {
    String part = "";
    String sentence = "";
    List<String> run = new ArrayList<>();
    List<String> lines = new ArrayList<>(Files.readAllLines(file));
    lines.add("");
    for (String line : lines) {
      if (line.startsWith("# ")) {
        part = line.substring(2);
      } else if (line.startsWith("> ")) {
        sentence = line.substring(2);
        isInDocument(part, sentence);
      } else if (!line.isBlank()) {
        if (!line.startsWith(";")) {
          run.add(line.trim());
        }
      } else if (!run.isEmpty()) {
        eachValue(part + " > " + sentence, run);
        quoted.computeIfAbsent(part, key -> new LinkedHashSet<>()).add(sentence);
        run = new ArrayList<>();
      }
    }
  }

  private static void eachValue(String what, List<String> run) throws ReflectiveOperationException {
    if (!run.get(0).startsWith("for ")) {
      runs++;
      run(what, run, false);
      run(what, run, true);
      return;
    }
    String[] sides = run.get(0).substring(4).split(" = ");
    for (String value : sides[1].split(" ")) {
      List<String> rest = new ArrayList<>();
      for (String row : run.subList(1, run.size())) {
        rest.add(row.replace("$" + sides[0], value));
      }
      eachValue(what, rest);
    }
  }

  private static void run(String what, List<String> run, boolean isAskedBetween) throws ReflectiveOperationException {
    Used used = new Used();
    StringBuilder before = new StringBuilder(what);
    Map<String, String> state = null;
    for (String row : run) {
      before.append("\n    ").append(row);
      if (row.startsWith("given ")) {
        given(used, row.substring(6));
        state = null;
        continue;
      }
      if (isAskedBetween && state == null) {
        state = state(used);
      }
      String name = row.substring(0, row.indexOf('('));
      String inside = row.substring(row.indexOf('(') + 1, row.indexOf(')'));
      Object[] arguments = arguments(FACE.get(name), inside);
      Object got = used.call(name, arguments);
      Check.due(before.toString(), got, answer(FACE.get(name).getReturnType(), row.substring(row.indexOf(')') + 2)));
      if (isAskedBetween) {
        Map<String, String> after = state(used);
        unchanged(before.toString(), state, after, mayChange(name, arguments, got));
        state = after;
      }
    }
    Check.due("at most " + CALLS + " calls: " + what, used.calls <= CALLS, true);
  }

  private static void given(Used used, String row) throws ReflectiveOperationException {
    String[] sides = row.split(" = ", 2);
    for (String number : row(sides[1]).split(" ")) {
      int thing = Integer.parseInt(number);
      if (sides[0].equals("queue")) {
        used.call("enter", thing);
      } else if (sides[0].equals("window")) {
        used.call("slide", thing);
      } else {
        used.call("put", Integer.parseInt(sides[0]), 1, 0, thing);
      }
    }
  }

  // ---- how calls and answers are written

  private static Object[] arguments(Method method, String inside) {
    Class<?>[] types = method.getParameterTypes();
    String[] words = inside.isEmpty() ? new String[0] : inside.split(", ");
    Check.due("arguments of " + method.getName() + "(" + inside + ")", words.length, types.length);
    Object[] arguments = new Object[types.length];
    for (int i = 0; i < types.length; i++) {
      arguments[i] = types[i] == boolean.class ? (Object) truth(words[i]) : (Object) number(words[i]);
    }
    return arguments;
  }

  private static Object answer(Class<?> type, String word) {
    if (word.startsWith("throws.")) {
      return word;
    }
    if (type == String.class) {
      return row(word.replaceAll("^\"|\"$", ""));
    }
    if (type == long.class) {
      return Long.valueOf(word);
    }
    return type == boolean.class ? (Object) truth(word) : (Object) number(word);
  }

  private static boolean truth(String word) {
    if (!word.equals("true") && !word.equals("false")) {
      throw new IllegalStateException("neither true nor false: " + word);
    }
    return word.equals("true");
  }

  private static int number(String word) {
    switch (word) {
      case "min": return Integer.MIN_VALUE;
      case "max": return Integer.MAX_VALUE;
      default: return Integer.parseInt(word);
    }
  }

  /** 1..3 is 1 2 3, and 3..1 is 3 2 1; 7*2 is 7 7. */
  private static String row(String words) {
    List<String> numbers = new ArrayList<>();
    for (String word : words.split(" ")) {
      if (word.contains("..")) {
        int from = Integer.parseInt(word.substring(0, word.indexOf('.')));
        int to = Integer.parseInt(word.substring(word.lastIndexOf('.') + 1));
        for (int i = 0; i <= Math.abs(to - from); i++) {
          numbers.add("" + (from < to ? from + i : from - i));
        }
      } else if (word.contains("*")) {
        for (int i = Integer.parseInt(word.split("\\*")[1]); i > 0; i--) {
          numbers.add(word.split("\\*")[0]);
        }
      } else {
        numbers.add(word);
      }
    }
    return String.join(" ", numbers);
  }

  // ---- what a call leaves as it was

  private static final class Used {
    private final Twostacks x = new Twostacks();
    private int calls = 0;

    Object call(String name, Object... arguments) throws ReflectiveOperationException {
      calls++;
      try {
        return FACE.get(name).invoke(x, arguments);
      } catch (InvocationTargetException e) {
        return "throws." + e.getCause().getClass().getSimpleName();
      }
    }
  }

  private static Map<String, String> state(Used used) throws ReflectiveOperationException {
    Map<String, String> state = new TreeMap<>();
    for (int deque = 0; deque < 4; deque++) {
      state.put("" + deque, "" + used.call("text", deque, false));
    }
    StringBuilder queue = new StringBuilder().append(used.call("queue"));
    StringBuilder window = new StringBuilder().append(used.call("window")).append("; ")
        .append(used.call("candidates", false)).append("; ").append(used.call("candidates", true));
    for (int what = 0; what < 6; what++) {
      queue.append("; ").append(used.call("ofQueue", what));
      window.append("; ").append(used.call("ofWindow", what));
    }
    state.put("queue", queue.toString());
    state.put("window", window.toString());
    // There is no call that only asks for WIDTH; the greatest one lets none go, and then it is put back.
    Object width = used.call("width", 12);
    used.call("width", width);
    state.put("WIDTH", "" + width);
    state.put("ring", "" + used.call("ring"));
    state.put("refusals", "" + used.call("house", 2));
    state.put("knocks", "" + used.call("house", 3));
    return state;
  }

  private static Set<String> mayChange(String name, Object[] arguments, Object got) {
    Set<String> free = new LinkedHashSet<>();
    if (got.toString().startsWith("throws.")) {
      return free;
    }
    if (got.equals(-9)) {
      free.add("refusals");
      return free;
    }
    for (String part : CHANGES.getOrDefault(name, List.of())) {
      free.add(part.matches("\\d") ? "" + arguments[Integer.parseInt(part)] : part);
    }
    return free;
  }

  private static void unchanged(String what, Map<String, String> before, Map<String, String> after, Set<String> free) {
    Map<String, String> want = new TreeMap<>(before);
    for (String part : free) {
      if (part.equals("refusals")) {
        want.put(part, "" + (Integer.parseInt(before.get(part)) + 1));
      } else {
        want.put(part, after.get(part));
      }
    }
    Check.due("all that can be asked after " + what, after, want);
  }
}
