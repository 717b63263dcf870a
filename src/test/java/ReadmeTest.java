import java.io.ByteArrayOutputStream;
import java.io.IOException;
import java.io.PrintStream;
import java.lang.reflect.Method;
import java.lang.reflect.Modifier;
import java.nio.charset.StandardCharsets;
import java.nio.file.Files;
import java.nio.file.Path;
import java.util.ArrayList;
import java.util.Arrays;
import java.util.Collections;
import java.util.List;
import java.util.stream.Stream;

/** README.md: its example is one that runs, and it has every method, exception, fault and test. */
public final class ReadmeTest {
  private static final int[] FAULTS =
      {1, 2, 3, 20, 21, 22, 23, 24, 25, 30, 31, 32, 33, 40, 41, 42, 43, 44, 45, 46};

  public static void main(String[] args) throws IOException {
    Bench b = new Bench("ReadmeTest");
    String readme = text("README.md");
    b.dueText("the example", block(readme, "java"), text("src/test/java/Example.java"));
    b.dueText("what the example prints", block(readme, "text"), printed());
    methods(b, readme);
    faults(b, readme);
    tests(b, readme);
    b.end();
  }

  private static String text(String path) throws IOException {
    return Files.readString(Path.of(path), StandardCharsets.UTF_8);
  }

  /** The first block of that kind. */
  private static String block(String readme, String kind) {
    String head = "```" + kind + "\n";
    int from = readme.indexOf(head);
    int to = from < 0 ? -1 : readme.indexOf("```\n", from + head.length());
    return to < 0 ? "" : readme.substring(from + head.length(), to);
  }

  private static String printed() {
    PrintStream before = System.out;
    ByteArrayOutputStream bytes = new ByteArrayOutputStream();
    System.setOut(new PrintStream(bytes, true, StandardCharsets.UTF_8));
    try {
      Example.main(new String[0]);
    } finally {
      System.setOut(before);
    }
    return bytes.toString(StandardCharsets.UTF_8).replace(System.lineSeparator(), "\n");
  }

  private static void methods(Bench b, String readme) {
    int methods = 0;
    for (Method m : CircuitCycles.class.getDeclaredMethods()) {
      if (!Modifier.isPublic(m.getModifiers())) continue;
      methods++;
      String[] cells = row(readme, "| `" + m.getReturnType() + " " + m.getName() + "(");
      b.due("cells of " + m.getName(), cells.length, 3);
      if (cells.length == 3) b.dueText("what " + m.getName() + " throws", named(cells[2]), declared(m));
    }
    b.due("methods", methods, 12);
    b.due("cells of the constructor", row(readme, "| `new CircuitCycles()` ").length, 3);
  }

  private static String[] row(String readme, String head) {
    int from = readme.indexOf("\n" + head);
    if (from < 0) return new String[0];
    String line = readme.substring(from + 1, readme.indexOf('\n', from + 1));
    return line.substring(2, line.length() - 2).split(" \\| ");
  }

  private static String named(String cell) {
    List<String> names = new ArrayList<>();
    for (String word : cell.split("`")) if (word.endsWith("Exception")) names.add(word);
    return names.toString();
  }

  private static String declared(Method m) {
    List<String> names = new ArrayList<>();
    for (Class<?> type : m.getExceptionTypes()) names.add(type.getSimpleName());
    return names.toString();
  }

  private static void faults(Bench b, String readme) {
    List<Integer> told = new ArrayList<>();
    String table = readme.substring(readme.indexOf("### The faults"), readme.indexOf("### Where the document"));
    for (String line : table.split("\n")) {
      if (!line.matches("\\| \\d.*")) continue;
      String codes = line.substring(2, line.indexOf(" |", 2));
      String[] ends = codes.split(" to |, ");
      int last = Integer.parseInt(ends[ends.length - 1]);
      for (int code = Integer.parseInt(ends[0]); code <= last; code++) told.add(code);
    }
    Collections.sort(told);
    b.dueText("the faults", told.toString(), Arrays.toString(FAULTS));
  }

  private static void tests(Bench b, String readme) throws IOException {
    try (Stream<Path> files = Files.list(Path.of("src/test/java"))) {
      for (Path file : (Iterable<Path>) files.sorted()::iterator) {
        String name = file.getFileName().toString().replace(".java", "");
        if (name.endsWith("Test")) b.due("is there " + name, readme.contains("`" + name + "`") ? 1 : 0, 1);
      }
    }
  }
}
