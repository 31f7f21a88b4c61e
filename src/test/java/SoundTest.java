import java.io.IOException;
import java.lang.reflect.InvocationTargetException;
import java.lang.reflect.Method;
import java.net.URL;
import java.net.URLClassLoader;
import java.nio.file.Files;
import java.nio.file.Path;
import java.util.HashMap;
import java.util.List;
import java.util.Map;
import javax.tools.ToolProvider;

/**
 * Promise 44, what no run of calls can show: isSound() is false if one of the things that it looks at is
 * not so. For that a fault is planted in a copy of the class, by another text in place of one that
 * stands there once; if the class is written anew, the fault has to be told anew here too.
 */
public final class SoundTest {
  private static final Path SOURCE = Path.of("src/main/java/Twostacks.java");
  private static final Path BUILD = Path.of("build/planted");
  /** The classes with a fault, each made once. */
  private static final Map<String, Class<?>> PLANTED = new HashMap<>();

  private static String source;

  public static void main(String[] args) throws IOException, ReflectiveOperationException {
    source = Files.readString(SOURCE);
    backWalk();
    periods();
    turns();
    braids();
    queue();
    window();
    survivors();
    Check.end("SoundTest");
  }

  private static void backWalk() throws IOException, ReflectiveOperationException {
    String walk = "for (int i = row.many() - 1; i >= 0; i--) {";
    sound(walk, "for (int i = row.many() - 1; i > 0; i--) {", true);
    for (int deque = 0; deque < 4; deque++) {
      sound(walk, "for (int i = row.many() - 1; i > 0; i--) {", false, deque + "=7");
      sound(walk, "for (int i = 0; i < row.many(); i++) {", false, deque + "=1 2");
      sound(walk, "for (int i = 0; i < row.many(); i++) {", true, deque + "=1 2 1");
    }
  }

  private static void periods() throws IOException, ReflectiveOperationException {
    String none = "return 0;\n    }\n\n    int leastStart()";
    sound(none, none.replace("0", "1"), false);
    sound(none, none.replace("0", "1"), false, "0=1", "1=1", "2=1");
    sound(none, none.replace("0", "1"), true, "0=1", "1=1", "2=1", "3=1");
    String found = "if (isTurnedTo(this, by)) {\n          return by;";
    // It divides its size, but by less it is what it is, too; or it does not divide it.
    for (int deque = 0; deque < 4; deque++) {
      sound(found, found.replace("by;", "many;"), false, deque + "=1 2 1 2");
      sound(found, found.replace("by;", "many;"), true, deque + "=1 2 1 3");
      sound(found, found.replace("by;", "by + many;"), false, deque + "=1 2 1 2");
      sound(found, found.replace("by;", "0;"), false, deque + "=1 2 1 2");
      // It divides its size, but turned by it it is not what it is.
      sound(found, found.replace("by;", "1;"), false, deque + "=1 2 1 2");
      sound(found, found.replace("by;", "1;"), true, deque + "=5 5 5 5");
    }
  }

  private static void turns() throws IOException, ReflectiveOperationException {
    String least = "into.turnBy(row.leastStart());";
    String shift = "if (isTurnedTo(other, by)) {";
    String[] alike = {"1 2 3", "2 3 1"};
    String[] unlike = {"1 2 3", "1 3 2"};
    for (int one = 0; one < 4; one++) {
      for (int other = one + 1; other < 4; other++) {
        // Turns of each other with two LEAST TURNS; others with one; turns that are found to be none.
        sound(least, "", false, one + "=" + alike[0], other + "=" + alike[1]);
        sound(least, "into.becomeNumbers(row.many());", false, one + "=" + unlike[0], other + "=" + unlike[1]);
        sound(shift, "if (by == 0 && isTurnedTo(other, by)) {", false, one + "=" + alike[0], other + "=" + alike[1]);
        sound(least, "", true, one + "=" + alike[0], other + "=" + unlike[1]);
        sound(least, "", true, one + "=1 2 3", other + "=2 3");
        sound(least, "into.becomeNumbers(1);", true, one + "=1 2 3", other + "=2 3");
      }
    }
  }

  private static void braids() throws IOException, ReflectiveOperationException {
    String longer = "int longer = Math.max(first.many(), second.many());";
    String apart = "i % 2 == 0 ? spareOne : spareOther";
    String numbers = "= " + Check.numbers(1, 24);
    sound(apart, "i % 3 == 0 ? spareOne : spareOther", false, "0=1 2 3", "1=4 5 6");
    sound(apart, "i % 2 == 0 || i == 47 ? spareOne : spareOther", false, "2" + numbers, "3" + numbers);
    sound(apart, "i % 2 == 0 && i != 46 ? spareOne : spareOther", false, "2" + numbers, "3" + numbers);
    for (int one = 0; one < 4; one++) {
      int other = (one + 1) % 4;
      // With themselves they all are as long, so this is seen of one alone too.
      sound(apart, "i % 2 == 0 || i == 5 ? spareOne : spareOther", false, one + "=1 2 3");
      sound(longer, "int longer = second.many();", false, one + "=1 2 3", other + "=4 5");
      sound(longer, "int longer = second.many();", true, one + "=1 2 3 4", other + "=5 6");
      sound(longer, "int longer = first.many();", true, one + "=1 2 3", other + "=4 5");
      sound(longer, "int longer = first.many() == 3 ? 0 : first.many();", false, one + "=1 2 3", other + "=4 5");
    }
  }

  private static void queue() throws IOException, ReflectiveOperationException {
    for (String count : List.of("entered++;", "moved++;", "left++;")) {
      boolean isEntered = count.startsWith("e");
      sound(count, "", true);
      sound(count, "", !isEntered, "enter 1");
      sound(count, "", count.startsWith("l"), "enter 1", "front");
      sound(count, "", false, "enter 1", "leave");
    }
    // One is lost on its way, or is there twice.
    sound("out.addLast(in.removeAt(top));", "in.removeAt(top);", false, "enter 1", "front");
    sound("out.addLast(in.removeAt(top));", "out.addLast(in.thingAt(top));", false, "enter 1", "front");
  }

  private static void window() throws IOException, ReflectiveOperationException {
    String candidate = "if (isAhead(row.thingAt(behind), row.thingAt(place), isHigh)) {";
    String noLow = candidate.replace(")) {", ") && isHigh) {");
    String noHigh = candidate.replace(")) {", ") && !isHigh) {");
    sound(candidate, noLow, true, "slide 5", "slide 7");
    sound(candidate, noLow, false, "slide 5", "slide 3");
    sound(candidate, noHigh, true, "slide 5", "slide 3");
    sound(candidate, noHigh, false, "slide 5", "slide 7");
    // The last one of those that are in it is looked at, too.
    sound(candidate, noLow, false, "slide 5", "slide 5", "slide 5", "slide 3");
    sound(candidate, noHigh, false, "slide 5", "slide 5", "slide 5", "slide 7");
  }

  private static void survivors() throws IOException, ReflectiveOperationException {
    String last = "return spareRing.thingAt(0);";
    for (String at : List.of("n == 1 && k == 1", "n == 1 && k == 5", "n == 12 && k == 1", "n == 12 && k == 5",
        "n == 7 && k == 3")) {
      sound(last, "return spareRing.thingAt(0) + (" + at + " ? 1 : 0);", false);
    }
    for (String at : List.of("n == 13", "n == 24", "k == 6", "k == 99")) {
      sound(last, "return spareRing.thingAt(0) + (" + at + " ? 1 : 0);", true);
    }
    sound("turnBy(k - 1);", "turnBy(k);", false);
  }

  // ---- the class with a fault

  /** What isSound() answers of an object of the class with the fault. */
  private static void sound(String text, String fault, boolean isSound, String... steps)
      throws IOException, ReflectiveOperationException {
    Object x = withFault(text, fault).getConstructor().newInstance();
    for (String step : steps) {
      make(x, step);
    }
    Check.due("isSound() with '" + fault + "' for '" + text + "' after " + List.of(steps), call(x, "isSound"), isSound);
  }

  private static Class<?> withFault(String text, String fault) throws IOException, ReflectiveOperationException {
    String key = text + " -> " + fault;
    if (!PLANTED.containsKey(key)) {
      int at = source.indexOf(text);
      Check.due("stands once in the class: " + text, at >= 0 && source.indexOf(text, at + 1) < 0, true);
      Path folder = Files.createDirectories(BUILD.resolve("" + PLANTED.size()));
      Path file = folder.resolve("Twostacks.java");
      Files.writeString(file, source.replace(text, fault));
      int compiled = ToolProvider.getSystemJavaCompiler()
          .run(null, null, null, "--release", "17", "-d", folder.toString(), file.toString());
      Check.due("compiles: " + key, compiled, 0);
      // Left open: the classes inside are loaded as they are come to.
      URLClassLoader loader =
          new URLClassLoader(new URL[] {folder.toUri().toURL()}, ClassLoader.getPlatformClassLoader());
      PLANTED.put(key, loader.loadClass("Twostacks"));
    }
    return PLANTED.get(key);
  }

  /** "0=1 2 3" fills DEQUE 0; "slide 5" and "leave" are calls. */
  private static void make(Object x, String step) throws ReflectiveOperationException {
    if (!step.contains("=")) {
      String[] words = step.split(" ");
      call(x, words[0], words.length > 1 ? new Object[] {Integer.valueOf(words[1])} : new Object[0]);
      return;
    }
    for (String thing : step.substring(2).trim().split(" ")) {
      call(x, "put", Integer.parseInt(step.substring(0, 1)), 1, 0, Integer.parseInt(thing));
    }
  }

  private static Object call(Object x, String name, Object... arguments) throws ReflectiveOperationException {
    for (Method method : x.getClass().getMethods()) {
      if (method.getName().equals(name)) {
        try {
          return method.invoke(x, arguments);
        } catch (InvocationTargetException e) {
          return "throws " + e.getCause();
        }
      }
    }
    throw new NoSuchMethodException(name);
  }
}
