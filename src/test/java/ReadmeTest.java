import java.io.IOException;
import java.nio.file.Files;
import java.nio.file.Path;
import java.util.ArrayList;
import java.util.Arrays;
import java.util.List;
import java.util.TreeSet;
import java.util.regex.Matcher;
import java.util.regex.Pattern;
import java.util.stream.Stream;

/**
 * What README.md shows is so: the class answers its calls as it says, its findings have their
 * numbers, its list of calls is the document's face, its list of tests is whole, and the command it
 * names is there. The first argument is the project's folder.
 */
public final class ReadmeTest {
  private static final Due due = new Due();
  private static final Pattern ROW =
      Pattern.compile("\\| `(\\w+)\\([^)]*\\)` \\|.*\\| ?([A-Z, ]*?) ?\\|");
  private static final Pattern CALL = Pattern.compile("x\\.(\\w+)\\(([^)]*)\\); +// (-?\\d+): .+");

  public static void main(String[] args) throws IOException {
    Path root = Path.of(args.length > 0 ? args[0] : ".");
    List<String> lines = Files.readAllLines(root.resolve("README.md"));
    calls(lines);
    findings(lines);
    face(lines);
    findingsOfCalls(lines);
    tests(lines, root);
    due.holds("it names the command", lines.contains("    .ci/run"));
    due.holds("the command can be run", Files.isExecutable(root.resolve(".ci/run")));
    due.end();
  }

  /** Every line of its Java: a new object, or a call with its answer behind it. */
  private static void calls(List<String> lines) {
    TalkKnots x = null;
    boolean inside = false;
    int called = 0;
    for (String line : lines) {
      if (line.startsWith("```")) {
        inside = line.equals("```java");
      } else if (inside && line.equals("TalkKnots x = new TalkKnots();")) {
        x = new TalkKnots();
      } else if (inside) {
        Matcher m = CALL.matcher(line);
        due.holds("a call with its answer: " + line, m.matches() && x != null);
        if (m.matches() && x != null) {
          due.is(line, Calls.call(x, m.group(1), numbers(m.group(2))), Long.parseLong(m.group(3)));
          called++;
        }
      }
    }
    due.holds("there are calls", called > 40);
  }

  private static long[] numbers(String listed) {
    return listed.isEmpty() ? new long[0]
        : Arrays.stream(listed.split(", ")).mapToLong(Long::decode).toArray();
  }

  private static void findings(List<String> lines) {
    List<String> names = List.of("BEYOND", "FULL", "KIND", "NONE", "STATE", "MISSING", "SIZE");
    for (String name : names) {
      String row = "| " + Calls.number(name) + " | " + name + " | ";
      due.holds("a row of " + name, lines.stream().anyMatch(line -> line.startsWith(row)));
    }
  }

  /** The first column of its list of calls: the document's face, in its order. */
  private static void face(List<String> lines) {
    List<String> listed = new ArrayList<>();
    for (String line : lines) {
      Matcher m = Pattern.compile("\\| `(\\w+\\([^)]*\\))` \\| .*").matcher(line);
      if (m.matches()) {
        listed.add(m.group(1));
      }
    }
    List<String> wanted = new ArrayList<>();
    for (String signature : FaceTest.FACE) {
      wanted.add(signature.replaceAll("\\b(int|long) ", ""));
    }
    due.holds("its calls are " + wanted + ", not " + listed, listed.equals(wanted));
  }

  /** The last column of its list of calls: the findings that RefusalTest has of each call. */
  private static void findingsOfCalls(List<String> lines) {
    for (String line : lines) {
      Matcher m = ROW.matcher(line);
      if (m.matches()) {
        TreeSet<String> told = new TreeSet<>();
        for (String row : RefusalTest.ROWS) {
          String[] words = row.split(" ");
          if (words[1].equals(m.group(1))) {
            told.add(words[words.length - 1]);
          }
        }
        TreeSet<String> listed = new TreeSet<>(Arrays.asList(m.group(2).split(", ")));
        listed.remove("");
        due.holds(m.group(1) + " tells " + told + ", not " + listed, told.equals(listed));
      }
    }
  }

  private static void tests(List<String> lines, Path root) throws IOException {
    TreeSet<String> listed = new TreeSet<>();
    for (String line : lines) {
      Matcher m = Pattern.compile("\\| `(\\w+Test)` \\| .*").matcher(line);
      if (m.matches()) {
        listed.add(m.group(1) + ".java");
      }
    }
    TreeSet<String> there = new TreeSet<>();
    try (Stream<Path> files = Files.list(root.resolve("src/test/java"))) {
      files.map(file -> file.getFileName().toString()).filter(name -> name.endsWith("Test.java"))
          .forEach(there::add);
    }
    due.holds("its tests are " + there + ", not " + listed, listed.equals(there));
  }
}
