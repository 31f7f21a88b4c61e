import java.io.IOException;
import java.lang.reflect.Constructor;
import java.lang.reflect.Field;
import java.lang.reflect.Method;
import java.lang.reflect.Modifier;
import java.nio.file.Files;
import java.nio.file.Path;
import java.util.ArrayList;
import java.util.Arrays;
import java.util.List;
import java.util.TreeSet;

/** The public face is just the one that the document tells, with its exceptions. */
public final class FaceTest {
  public static void main(String[] args) throws IOException {
    Check.due("face", told(), documented());
    declared();
    Check.due("public and final", Modifier.isPublic(Twostacks.class.getModifiers())
        && Modifier.isFinal(Twostacks.class.getModifiers()), true);
    hidden();
    Check.end("FaceTest");
  }

  /** Each member is declared as the document writes it, with the names of its arguments. */
  private static void declared() throws IOException {
    String source = Files.readString(Path.of("src/main/java/Twostacks.java")).replaceAll("\\s+", " ");
    int members = 0;
    for (String line : Files.readAllLines(Path.of("../shared/DOC.md"))) {
      if (line.startsWith("    public ")) {
        members++;
        Check.due("declared: " + line, source.contains(line.trim().replace(";", " {")), true);
      }
    }
    Check.due("members of the face", members, 45);
  }

  private static TreeSet<String> documented() throws IOException {
    List<String> lines = Files.readAllLines(Path.of("../shared/DOC.md"));
    TreeSet<String> face = new TreeSet<>();
    for (String line : lines.subList(lines.indexOf("```java") + 2, lines.lastIndexOf("```") - 1)) {
      face.add(line.trim().replaceAll("(int|boolean) \\w+(?=[,)])", "$1").replace(";", ""));
    }
    return face;
  }

  private static TreeSet<String> told() {
    TreeSet<String> face = new TreeSet<>();
    for (Constructor<?> constructor : Twostacks.class.getConstructors()) {
      face.add("public Twostacks(" + types(constructor.getParameterTypes()) + ")");
    }
    for (Method method : Twostacks.class.getDeclaredMethods()) {
      if (Modifier.isPublic(method.getModifiers())) {
        String thrown = types(method.getExceptionTypes());
        face.add("public " + method.getReturnType().getSimpleName() + " " + method.getName() + "("
            + types(method.getParameterTypes()) + ")" + (thrown.isEmpty() ? "" : " throws " + thrown));
      }
    }
    return face;
  }

  private static String types(Class<?>[] types) {
    List<String> names = new ArrayList<>();
    for (Class<?> type : types) {
      names.add(type.getSimpleName());
    }
    return String.join(", ", names);
  }

  /** Rule 1 of LANGUAGE.md: all but the face is private, and no private method bears a public one's name. */
  private static void hidden() {
    TreeSet<String> names = new TreeSet<>();
    for (Method method : Twostacks.class.getDeclaredMethods()) {
      if (Modifier.isPublic(method.getModifiers())) {
        names.add(method.getName());
      }
    }
    List<Method> others = new ArrayList<>(Arrays.asList(Twostacks.class.getDeclaredMethods()));
    others.removeIf(method -> Modifier.isPublic(method.getModifiers()));
    for (Class<?> inside : Twostacks.class.getDeclaredClasses()) {
      Check.due("static " + inside, Modifier.isStatic(inside.getModifiers()), true);
      others.addAll(Arrays.asList(inside.getDeclaredMethods()));
    }
    for (Method method : others) {
      Check.due("a face's name at " + method, names.contains(method.getName()), false);
      Check.due("hidden " + method, method.getDeclaringClass() != Twostacks.class
          || Modifier.isPrivate(method.getModifiers()), true);
    }
    for (Field field : Twostacks.class.getDeclaredFields()) {
      Check.due("private " + field, Modifier.isPrivate(field.getModifiers()), true);
      Check.due("no static state " + field, !Modifier.isStatic(field.getModifiers())
          || Modifier.isFinal(field.getModifiers()), true);
    }
  }
}
