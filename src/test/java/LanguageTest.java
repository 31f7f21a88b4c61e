import java.io.IOException;
import java.nio.file.Files;
import java.nio.file.Path;

/** The class keeps to the rules of LANGUAGE.md that can be told from its source. */
public final class LanguageTest {
  public static void main(String[] args) throws IOException {
    String source = Files.readString(Path.of("src/main/java/Twostacks.java"));
    LanguageRules rules = LanguageRules.of(source);
    Check.due("faults", String.join("\n", rules.faults), "");
    Check.due("all methods are read", rules.calls.size() > 44, true);
    Check.due("characters 1 to 127 alone", source.chars().allMatch(sign -> sign > 0 && sign < 128), true);
    faultsAreSeen();
    Check.end("LanguageTest");
  }

  /** What is against a rule is told: else this test would be of no use. */
  private static void faultsAreSeen() throws IOException {
    isFault(1, "public int a; ");
    isFault(1, "int a() { return 1; }");
    isFault(1, "public int a() { return 1; } private int a(int b) { return b; }");
    isFault(1, "public int a() { return 1; } private static class B { private int a() { return 1; } }");
    isFault(1, "public static class B { }");
    isFault(1, "private class B { }");
    isFault(2, "private int a(int b) { class C { int d() { return b; } } return new C().d(); }");
    isFault(2, "private Iterable<Integer> a() { return () -> null; }");
    isFault(2, "private Comparable<Integer> a() { return Integer.valueOf(1)::compareTo; }");
    isFault(3, "private Object a;");
    isFault(3, "private int[][][] a;");
    isFault(3, "private String[] a;");
    isFault(3, "private java.util.Map<Integer, Integer> a() { return null; }");
    isFault(4, "private int a(String b) { return b.lastIndexOf('c'); }");
    isFault(4, "private int a(String b) { return b.indexOf(\"c\"); }");
    isFault(4, "private void a(StringBuilder b) { b.append(1L); }");
    isFault(4, "private int a() { return Math.addExact(1, 2); }");
    isFault(4, "private double a() { return Math.abs(1.5); }");
    isFault(4, "private long a() { return System.nanoTime(); }");
    isFault(4, "private int a() { return hashCode(); }");
    isFault(4, "private StringBuilder a() { return new StringBuilder(5); }");
    isFault(4, "private String a() { return \"\\u00e9\"; }");
    isFault(5, "private static int a = 1;");
    isFault(5, "private static final StringBuilder A = new StringBuilder();");
    isFault(5, "private static final int[] A = new int[3];");
    isFault(5, "static { }");
    isFault(6, "private void a() { throw new Error(); }");
    isFault(6, "private void a(String b) { throw new IllegalArgumentException(b); }");
    isFault(6, "private void a(IllegalStateException b) { throw b; }");
    isFault(6, "public Twostacks() { throw new IllegalStateException(); }");
    isFault(6, "private void a() { try { b(); } finally { b(); } } private void b() { }");
    isFault(6, "private void a() { try { b(); } catch (RuntimeException e) { b(); } } private void b() { }");
    isFault(6, "private void a() { try { b(); } catch (ArrayIndexOutOfBoundsException e) { b(); } } private void b() { }");
    isFault(6, "private void a() { try { throw new IllegalStateException(); } catch (IllegalStateException e) { } }");
    isFault(6, "private synchronized void a() { }");
    isFault(6, "private void a() { synchronized (this) { } }");
    isFault(6, "private void a(int b) { assert b > 0; }");
    isFault(6, "private boolean a(String b, String c) { return b == c; }");
    isFault(6, "private boolean a(Integer b, Integer c) { return b != c; }");
    isFault(6, "public String toString() { return \"\"; }");
    isFault(8, "private void a() { b(); } private void b() { a(); }");
    isFault(9, "private void a() { for (;;) { } }");
    isFault(9, "private void a() { while (true) { } }");
    isFault(9, "private void a(int b) { for (int i = 0; i < b; ) { i++; } }");
    isFault(10, "private String a(int b) { return \"c\" + b; }");
    isFault(10, "private void a(String b) { b += 'c'; }");
    isFault(11, "private void a(int b, int c, int d, int e, int f, int g, int h, int i) { }");
    isFault(11, "private void a() { " + "\n".repeat(60) + "}");
    isFault(11, repeated("private static class B# { }", 12));
    isFault(11, repeated("private int a#;", 21));
    isFault(11, repeated("private void a#() { a%(); }", 8) + " private void a8() { }");
    isFault(12, "private void a() { new StringBuilder(); new StringBuilder(); }");
    isFault(12, "private static class B { B() { a(); } void a() { } }");
    Check.due("nothing against a rule",
        LanguageRules.of(inClass("private int a(int b) { return Math.floorMod(b, 3); }")).faults.size(), 0);
    Check.due("eight calls deep",
        LanguageRules.of(inClass(repeated("private void a#() { a%(); }", 7) + " private void a7() { }")).faults.size(), 0);
  }

  private static String inClass(String inside) {
    return "public final class Twostacks { " + inside + " }";
  }

  /** The row so often, with # for the number of each and % for the next one. */
  private static String repeated(String row, int times) {
    StringBuilder rows = new StringBuilder();
    for (int i = 0; i < times; i++) {
      rows.append(row.replace("#", "" + i).replace("%", "" + (i + 1))).append(' ');
    }
    return rows.toString();
  }

  private static void isFault(int rule, String inside) throws IOException {
    LanguageRules rules = LanguageRules.of(inClass(inside));
    boolean isTold = rules.faults.stream().anyMatch(fault -> fault.startsWith("rule " + rule + ":"));
    Check.due("a fault by rule " + rule + " in " + inside + ", told are " + rules.faults, isTold, true);
  }
}
