import java.nio.charset.StandardCharsets;
import java.nio.file.Files;
import java.nio.file.Path;
import java.util.List;
import java.util.regex.Pattern;

/** What of LANGUAGE.md can be seen in the program's words; .ci/run starts it where the program is. */
public final class RulesTest {
  private static final int LONGEST_METHOD = 60;

  public static void main(String[] args) throws Exception {
    Path program = Path.of("src/main/java/TextIndices.java");
    List<String> lines = Files.readAllLines(program, StandardCharsets.ISO_8859_1);
    int start = 0;
    for (int i = 0; i < lines.size(); i++) {
      String line = lines.get(i);
      absent(i, line, "[^\\x20-\\x7e]");
      if (line.startsWith("import") || line.startsWith("package")) {
        Check.due("line " + (i + 1) + " imports what it may", line.matches("import java\\.util\\.(Arrays|ArrayList);") ? 1 : 0, 1);
      }
      if (line.strip().startsWith("*") || line.strip().startsWith("/")) {
        continue;
      }
      absent(i, line, "\\b(throws?|try|catch|finally|synchronized|assert|native|volatile|protected|hashCode|toString)\\b");
      absent(i, line, "->|::|Exact\\(|\\bSystem\\.(?!arraycopy)|\\bThread\\b|\\bRandom\\b|\\brandom\\b");
      if (line.matches(" {2}(  )?[a-z].*\\{")) {
        start = i;
      }
      if (line.matches(" {2}  }") && i - start > LONGEST_METHOD) {
        Check.due("length of the method that ends at line " + (i + 1), i - start, LONGEST_METHOD);
      }
    }
    Check.finish();
  }

  private static void absent(int number, String line, String pattern) {
    boolean found = Pattern.compile(pattern).matcher(line).find();
    Check.due("line " + (number + 1) + " has " + pattern, found ? 1 : 0, 0);
  }
}
