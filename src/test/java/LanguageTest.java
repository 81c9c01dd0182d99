import java.io.IOException;
import java.nio.file.Files;
import java.nio.file.Path;
import java.util.ArrayList;
import java.util.List;
import java.util.regex.Matcher;
import java.util.regex.Pattern;

/**
 * What a reader of the bare text can tell of LANGUAGE.md: forbidden words, long methods, too many
 * classes or parameters, and that nothing is made outside constructors and fields. Its first
 * argument is the project's folder.
 */
public final class LanguageTest {
  private static final Due due = new Due();

  private static final String[] FORBIDDEN = {
    "throw", "throws", "try", "catch", "synchronized", "assert", "import", "package", "native",
    "volatile", "transient", "protected", "double", "float", "var", "record", "sealed", "Object",
    "Thread", "System\\.(?!arraycopy\\b)\\w+", "Math\\.\\w+Exact", "hashCode", "toString",
    "Exception", "Throwable", "Error", "instanceof", "yield", "static\\s*\\{",
  };

  public static void main(String[] args) throws IOException {
    Path root = Path.of(args.length > 0 ? args[0] : ".");
    String text = Files.readString(root.resolve("src/main/java/TalkKnots.java"));
    for (int i = 0; i < text.length(); i++) {
      if (text.charAt(i) > 126) {
        due.holds("plain signs alone, but at " + i, false);
      }
    }
    String code = bare(text);
    for (String word : FORBIDDEN) {
      due.holds("without '" + word + "'",
          !Pattern.compile("(?<!\\w)" + word + "(?!\\w)").matcher(code).find());
    }
    due.holds("no lambda", !code.contains("->"));
    due.holds("no method reference", !code.contains("::"));
    due.holds("no text joined by +", !Pattern.compile("\"\\s*\\+|\\+\\s*\"").matcher(code).find());
    due.holds("twelve classes at most", found(code, "\\bclass \\w+").size() <= 12);
    staticFields(code);
    methods(code.split("\n", -1));
    due.end();
  }

  /** The code without comments, and with nothing inside its texts. */
  private static String bare(String text) {
    return text.replaceAll("\"(\\\\.|[^\"\\\\])*\"", "\"\"").replaceAll("'(\\\\.|[^'\\\\])'", "' '")
        .replaceAll("(?s)/\\*.*?\\*/", "").replaceAll("//[^\n]*", "");
  }

  private static List<String> found(String code, String pattern) {
    List<String> all = new ArrayList<>();
    Matcher m = Pattern.compile(pattern).matcher(code);
    while (m.find()) {
      all.add(m.group());
    }
    return all;
  }

  private static void staticFields(String code) {
    for (String field : found(code, "(?m)^.*\\bstatic\\b[^({\n]*[=;].*$")) {
      due.holds("a final constant: " + field,
          field.matches("\\s*private static final int [A-Z_]+ = -?\\d+;"));
    }
  }

  /** Goes by the indents: a method stands 2 or 4 deep and ends with a brace as deep. */
  private static void methods(String[] lines) {
    Pattern head = Pattern.compile("^(  |    )(\\w[\\w\\[\\] ]* )?(\\w+)\\((.*)\\) \\{$");
    boolean maker = false;
    int start = -1;
    String indent = "";
    for (int i = 0; i < lines.length; i++) {
      Matcher m = head.matcher(lines[i]);
      if (start < 0 && m.matches()) {
        start = i;
        indent = m.group(1);
        maker = m.group(2) == null || m.group(2).equals("public ");
        due.holds("seven parameters: " + lines[i], m.group(4).split(",").length <= 7);
      }
      if (start >= 0 && !maker) {
        due.holds("nothing made in a method: " + lines[i], !lines[i].matches(".*\\bnew\\b.*"));
      }
      if (start >= 0 && lines[i].equals(indent + "}")) {
        due.holds("sixty lines: " + lines[start], i - start <= 60);
        start = -1;
      }
    }
  }
}
