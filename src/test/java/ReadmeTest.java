import java.lang.reflect.Method;
import java.lang.reflect.Modifier;
import java.nio.file.Files;
import java.nio.file.Path;
import java.util.List;
import java.util.regex.Matcher;
import java.util.regex.Pattern;
import java.util.stream.Stream;

/** README.md: each line of its example answers what stands behind it; every call, every test is named. */
public final class ReadmeTest {
  private static final Pattern TYPED = Pattern.compile("for \\(char b : \"([^\"]*)\"\\.toCharArray\\(\\)\\) house\\.type\\((\\d), b\\);");
  private static final Pattern CALL = Pattern.compile("house\\.(\\w+)\\(([^)]*)\\); +// (-?\\d+)\\b.*");
  private static int wrong = 0, checks = 0;

  private static void holds(String what, boolean so) {
    checks++;
    if (so) return;
    wrong++;
    System.out.println("not so: " + what);
  }

  private static long answer(LinenHouse house, String call, String args) throws Exception {
    Object[] numbers = args.isEmpty() ? new Object[0] : Stream.of(args.split(", ")).map(ReadmeTest::number).toArray();
    for (Method m : LinenHouse.class.getMethods()) {
      if (m.getName().equals(call) && m.getParameterCount() == numbers.length) return ((Number) m.invoke(house, numbers)).longValue();
    }
    throw new IllegalStateException("no call " + call + "(" + args + ")");
  }

  private static Integer number(String told) {
    return told.equals("LinenHouse.NONE") ? LinenHouse.NONE : Integer.valueOf(told);
  }

  private static void example(List<String> lines) throws Exception {
    LinenHouse house = null;
    for (String line : lines) {
      Matcher typed = TYPED.matcher(line), call = CALL.matcher(line);
      if (line.equals("LinenHouse house = new LinenHouse();")) {
        house = new LinenHouse();
      } else if (typed.matches()) {
        for (char b : typed.group(1).toCharArray()) house.type(Integer.parseInt(typed.group(2)), b);
      } else if (call.matches()) {
        long got = answer(house, call.group(1), call.group(2));
        holds(line + " answered " + got, got == Long.parseLong(call.group(3)));
      } else {
        holds("a line of the example that is run: " + line, line.isEmpty() || line.startsWith("// "));
      }
    }
  }

  public static void main(String[] args) throws Exception {
    String page = Files.readString(Path.of("README.md"));
    int start = page.indexOf("```java\n") + 8, end = page.indexOf("```\n", start);
    holds("there is an example", start > 8 && end > start);
    List<String> lines = page.substring(start, Math.max(start, end)).lines().toList();
    example(lines);
    for (Method m : LinenHouse.class.getDeclaredMethods()) {
      String shown = "house." + m.getName() + "(";
      if (Modifier.isPublic(m.getModifiers())) holds(m.getName() + " is shown", lines.stream().anyMatch(line -> line.contains(shown)));
    }
    try (Stream<Path> files = Files.list(Path.of("src/test/java"))) {
      for (Path file : files.toList()) {
        String name = file.getFileName().toString().replace(".java", "");
        holds(name + " is named", page.contains("`" + name + "`"));
      }
    }
    holds("how to run the tests", page.contains("    bash .ci/run\n") && Files.isExecutable(Path.of(".ci/run")));
    System.out.println(checks + " checks, " + wrong + " not so");
    if (wrong != 0) System.exit(1);
  }
}
