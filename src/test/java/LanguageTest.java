import java.io.IOException;
import java.nio.file.Files;
import java.nio.file.Path;
import java.util.List;

// The class keeps to LANGUAGE.md; and each check of LanguageRules finds what it is there for.
public final class LanguageTest {
  private static final Path SOURCE = Path.of("src/main/java/ReadlineEditor.java");

  public static void main(String[] args) throws IOException {
    for (String fault : LanguageRules.faultsOf(Files.readString(SOURCE))) {
      Expect.tell("ReadlineEditor breaks " + fault);
    }
    allowed();
    oneClass();
    types();
    library();
    arrays();
    constants();
    statements();
    loops();
    sizes();
    Expect.finish();
  }

  private static void allowed() throws IOException {
    keeps("private static final int N = 4; private static final long L = 1L;");
    keeps("private static final int N = 4; private final int[] a = new int[N]; private final char[] b = new char[1];");
    keeps("private int f(int[] c) { int[] d = c; c[0] = 1; return c.length + d[0]; }");
    keeps("private int f(int n) { int t = 0; do { t++; } while (t < n); return n > 0 ? (int) 3L : t; }");
    keeps("private int f(int n) { out: for (int i = 0; i < n; i++) { while (n > 0) { n -= 2; break out; } } return n; }");
    keeps("private int f(int a, int b, int c, int d, int e, int g, int h) { return a; }");
    keeps("private int f(int a) { return this.g(a) + g(1); } private int g(int a) { return a; }");
    keeps(chain(6));
    keeps(manyFields(40));
    keeps(longMethod(60));
  }

  private static void oneClass() throws IOException {
    breaksWhole(1, "package p; public final class A {}");
    breaksWhole(1, "public final class A {} class B {}");
    breaksWhole(1, "public class A {}");
    breaksWhole(1, "final class A {}");
    breaksWhole(1, "public enum A { B }");
    breaks(1, "private static class B {}");
    breaks(1, "private interface B {}");
    breaks(1, "private enum B { C }");
    breaks(1, "private record B(int c) {}");
    breaks(1, "int f() { return 1; }");
    breaks(1, "protected int f() { return 1; }");
    breaks(1, "public int f() { return 1; } private int f(int a) { return a; }");
    breaks(1, "int a = 1;");
    breaks(1, "static final int A = 1;");
  }

  private static void types() throws IOException {
    breaks(2, "private float a = 1;");
    breaks(2, "private int f(double a) { return 1; }");
    breaks(2, "private int f() { return (int) 1.5; }");
    breaks(2, "private int f() { return (int) 1.5f; }");
    breaks(2, "private String a;");
    breaks(2, "private Object f() { return this; }");
    breaks(2, "private int[][] a;");
    breaks(2, "private B<C> a;");
    breaks(2, "private void f(Integer a) {}");
    breaks(2, "private void f() { var a = 1; }");
    breaks(2, "private int f() { return \"a\".length(); }");
  }

  private static void library() throws IOException {
    breaksWhole(3, "import java.util.Arrays; public final class A {}");
    breaksWhole(3, "public final class A extends B {}");
    breaksWhole(3, "public final class A implements B {}");
    breaks(3, "private int f(int a) { return Math.abs(a); }");
    breaks(3, "private int f() { return Integer.MAX_VALUE; }");
    breaks(3, "private int f() { return hashCode(); }");
    breaks(3, "private int f() { return this.hashCode(); }");
    breaks(3, "private int f(int[] a) { return a.clone().length; }");
    breaks(3, "@Deprecated private int f() { return 1; }");
  }

  private static void arrays() throws IOException {
    breaks(4, "private int f() { int[] a = new int[4]; return a[0]; }");
    breaks(4, "private final int[] a = {1, 2};");
    breaks(4, "private final int[] a = new int[] {1, 2};");
    breaks(4, "private final int[] a = new int[0];");
    breaks(4, "private int n = 4; private final int[] a = new int[n];");
    breaks(4, "private final int[] a = new int[4]; private int[] f() { return a; }");
    breaks(4, "private int[] a = new int[4]; private int[] b = new int[4]; private void f() { a = b; }");
    breaks(4, "private int[] a = new int[4]; private void f(int[] b) { this.a = b; }");
    breaks(4, "private boolean f(int[] a, int[] b) { return a == b; }");
    breaks(4, "private boolean f(int[] a) { return null != a; }");
    breaks(4, "private void f() { g(null); } private void g(int[] a) {}");
    breaks(4, "private void f() { new A(); }");
  }

  private static void constants() throws IOException {
    breaks(5, "private static int a = 1;");
    breaks(5, "private static final boolean A = true;");
    breaks(5, "private static final int[] A = new int[4];");
    breaks(5, "private static final int A;");
    breaks(5, "private static final int A = 1; static { }");
  }

  private static void statements() throws IOException {
    breaks(6, "private void f() { throw new RuntimeException(); }");
    breaks(6, "private void f() { try { g(); } finally { g(); } } private void g() {}");
    breaks(6, "private void f() { synchronized (this) { } }");
    breaks(6, "private void f() { assert true; }");
    breaks(6, "private boolean f() { return this instanceof A; }");
    breaks(6, "private Runnable a = () -> { };");
    breaks(6, "private Runnable a = this::f; private void f() {}");
    breaks(6, "private A f() { return (A) this; }");
  }

  private static void loops() throws IOException {
    breaks(8, "private void f() { f(); }");
    breaks(8, "private void f() { g(); } private void g() { f(); }");
    breaks(8, "private void f() { while (true) { } }");
    breaks(8, "private void f() { for (;;) { } }");
    breaks(8, "private void f(int a) { do { } while (a > 0); }");
    breaks(8, "private void f(int a, int b) { while (a > 0) { b--; } }");
  }

  private static void sizes() throws IOException {
    breaks(10, "private void f(int a, int b, int c, int d, int e, int g, int h, int i) {}");
    breaks(10, "private int f(int a) { return g(g(a)); } private int g(int a) { return a; }");
    breaks(10, "private int f(int a) { return g(1 + g(a)); } private int g(int a) { return a; }");
    breaks(10, chain(7));
    breaks(10, manyFields(41));
    breaks(10, longMethod(61));
  }

  private static String chain(int depth) {
    StringBuilder members = new StringBuilder("private void f1() {}");
    for (int i = 2; i <= depth; i++) {
      members.append(" private void f").append(i).append("() { f").append(i - 1).append("(); }");
    }
    return members.toString();
  }

  private static String manyFields(int count) {
    StringBuilder members = new StringBuilder();
    for (int i = 0; i < count; i++) {
      members.append("private int a").append(i).append(" = 0; ");
    }
    return members.toString();
  }

  private static String longMethod(int lines) {
    return "private void f() {" + "\n".repeat(lines - 1) + "}";
  }

  private static void keeps(String members) throws IOException {
    List<String> faults = LanguageRules.faultsOf("public final class A { " + members + " }");
    Expect.same(members, faults.toString(), "[]");
  }

  private static void breaks(int rule, String members) throws IOException {
    breaksWhole(rule, "public final class A { " + members + " }");
  }

  private static void breaksWhole(int rule, String source) throws IOException {
    List<String> faults = LanguageRules.faultsOf(source);
    boolean found = faults.stream().anyMatch(fault -> fault.startsWith("rule " + rule + ": "));
    if (!found) {
      Expect.tell("rule " + rule + " is broken, and told was " + faults + ", in: " + source);
    }
  }
}
