import java.lang.reflect.Constructor;
import java.lang.reflect.Field;
import java.lang.reflect.Method;
import java.lang.reflect.Modifier;
import java.nio.file.Files;
import java.nio.file.Path;
import java.util.ArrayList;
import java.util.Arrays;
import java.util.List;
import java.util.TreeSet;
import java.util.regex.Matcher;
import java.util.regex.Pattern;

/** What of LANGUAGE.md can be seen by a machine: the face, words that are ruled out, sizes, what calls allocate. */
public final class LanguageTest {
  private static final String[] FACE = {"int type(int,int)", "int wipe(int)", "int undo(int)", "int fault(int)", "int member(int,int)", "int motion(int,int)",
      "int weight(int,int)", "int fold(int,int,int)", "int jar(int)", "int back(int)", "int read(int)", "int lies(int,int,int)", "int vote(int,int)",
      "int house(int)", "int told()", "int pleased()", "int lift(int,int)", "int agenda(int)", "long power(int,int)", "int ring()", "int sham(int,int)",
      "int seen(int,int)", "int forget()", "int never()", "int would(int)", "int ask(int)", "long ajar(int,int,int,int,int)", "int evenings(int,int)",
      "int sheet(int,int,int)", "int lose(int)", "int put(int,int,int,int)", "int get(int,int,int)", "int copy(int,int,int,int,int)", "int write(int)",
      "int count(int)", "long digest()"};
  private static int wrong = 0, checks = 0;

  private static void holds(String what, boolean so) {
    checks++;
    if (!so) {
      wrong++;
      System.out.println("not so: " + what);
    }
  }

  private static String head(Method m) {
    StringBuilder args = new StringBuilder();
    for (Class<?> type : m.getParameterTypes()) args.append(args.length() == 0 ? "" : ",").append(type.getName());
    return m.getReturnType().getName() + " " + m.getName() + "(" + args + ")";
  }

  private static void face() {
    TreeSet<String> shown = new TreeSet<>(), names = new TreeSet<>();
    for (Method m : LinenHouse.class.getDeclaredMethods()) {
      if (Modifier.isPrivate(m.getModifiers())) continue;
      holds(m + " is public and of the object", Modifier.isPublic(m.getModifiers()) && !Modifier.isStatic(m.getModifiers()));
      shown.add(head(m));
      names.add(m.getName());
    }
    holds("the methods of the face", shown.equals(new TreeSet<>(Arrays.asList(FACE))));
    Constructor<?>[] makers = LinenHouse.class.getDeclaredConstructors();
    holds("one public constructor", makers.length == 1 && Modifier.isPublic(makers[0].getModifiers()) && makers[0].getParameterCount() == 0);
    holds("a public final class", Modifier.isFinal(LinenHouse.class.getModifiers()) && Modifier.isPublic(LinenHouse.class.getModifiers()));
    TreeSet<String> constants = new TreeSet<>();
    for (Field f : LinenHouse.class.getDeclaredFields()) if (!Modifier.isPrivate(f.getModifiers())) constants.add(f.getName());
    holds("the constants of the face", constants.equals(new TreeSet<>(List.of("NONE", "BAD", "NOT", "FULL"))));
    List<Class<?>> all = new ArrayList<>(List.of(LinenHouse.class.getDeclaredClasses()));
    holds("twelve classes at most", all.size() < 12);
    for (Class<?> c : all) {
      holds(c + " is static and not public", Modifier.isStatic(c.getModifiers()) && !Modifier.isPublic(c.getModifiers()));
      for (Method m : c.getDeclaredMethods()) holds(m + " has a name of its own", !names.contains(m.getName()));
    }
    all.add(LinenHouse.class);
    for (Class<?> c : all) sizes(c, names);
  }

  private static void sizes(Class<?> c, TreeSet<String> names) {
    int own = 0;
    for (Field f : c.getDeclaredFields()) {
      if (Modifier.isStatic(f.getModifiers())) holds(f + " is final", Modifier.isFinal(f.getModifiers()));
      else own++;
    }
    holds(c + " has twenty fields at most", own <= 20);
    for (Method m : c.getDeclaredMethods()) {
      holds(m + " takes seven parameters at most", m.getParameterCount() <= 7);
      if (Modifier.isPrivate(m.getModifiers())) holds(m + " is private, so named otherwise than the face", !names.contains(m.getName()));
    }
  }

  private static void words(String source) {
    String code = source.replaceAll("(?s)/\\*.*?\\*/", " ").replaceAll("//[^\n]*", " ");
    String[] ruledOut = {"throw", "throws", "try", "catch", "finally", "synchronized", "assert", "import", "package", "Exact", "hashCode", "Thread", "Random",
        "currentTimeMillis", "nanoTime", "Object", "String", "double", "float"};
    for (String word : ruledOut) holds("without the word " + word, !Pattern.compile("\\b\\w*" + word + "\\b").matcher(code).find());
    holds("no lambda, no method reference", !code.contains("->") && !code.contains("::"));
    holds("no quoted text", !code.contains("\""));
    Matcher library = Pattern.compile("\\b(Math|Integer|Long|System|Arrays)\\.(\\w+)").matcher(code);
    while (library.find()) {
      holds("library: " + library.group(), List.of("Math.abs", "Math.min", "Math.max", "Integer.bitCount", "System.arraycopy").contains(library.group()));
    }
    holds("no while: every loop is a for with its bound", !Pattern.compile("\\bwhile\\b|\\bdo\\b").matcher(code).find());
  }

  private static void lengths(List<String> lines) {
    int start = -1;
    for (int i = 0; i < lines.size(); i++) {
      String line = lines.get(i);
      holds("line " + (i + 1) + " is plain text of 120 signs at most", line.matches("[ -~]{0,120}"));
      if (line.matches("( {4}| {8})(?! )(public |private |static )*[\\w\\[\\]]+ ?\\w*\\(.*\\{")) start = i;
      if (start >= 0 && line.matches("( {4}| {8})\\}")) {
        holds("the method at line " + (start + 1) + " has sixty lines at most", i - start < 60);
        start = -1;
      }
    }
  }

  /** All calls of a run live in one room, so a call makes no objects: the rows are made with the object. */
  private static void room() {
    LinenHouse x = new LinenHouse();
    String members = "s1abc;s3bca;b2cab;b4cba;d5acb;d5bac;d4cab;d3abc", motions = "ab1bc2ca1ba2ac1cb2ab2bc1ac2ca1";
    for (int i = 0; i < members.length(); i++) x.type(0, members.charAt(i));
    for (int i = 0; i < motions.length(); i++) x.type(1, motions.charAt(i));
    for (int i = 0; i < 60; i++) x.digest();
    com.sun.management.ThreadMXBean bean = (com.sun.management.ThreadMXBean) java.lang.management.ManagementFactory.getThreadMXBean();
    long before = bean.getCurrentThreadAllocatedBytes();
    for (int i = 0; i < 200; i++) {
      x.digest();
      x.sheet(0, 2, 60);
      x.write(0);
      x.type(0, 1);
      x.undo(0);
    }
    holds("calls make next to no objects", bean.getCurrentThreadAllocatedBytes() - before < 10_000);
  }

  public static void main(String[] args) throws Exception {
    Path source = Path.of("src/main/java/LinenHouse.java");
    face();
    words(Files.readString(source));
    lengths(Files.readAllLines(source));
    room();
    System.out.println(checks + " checks, " + wrong + " not so");
    if (wrong != 0) System.exit(1);
  }
}
