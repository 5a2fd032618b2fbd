import java.nio.charset.StandardCharsets;
import java.nio.file.Files;
import java.nio.file.Path;
import java.util.regex.Matcher;
import java.util.regex.Pattern;

/** What of LANGUAGE.md can be seen in the program's words; .ci/run starts it where the program is. */
public final class RulesTest {
  private static final Pattern APART = Pattern.compile(
      "//[^\\n]*|/\\*.*?\\*/|\"(?:\\\\.|[^\"\\\\\\n])*\"|'(?:\\\\.|[^'\\\\\\n])+'", Pattern.DOTALL);
  private static final Pattern METHOD = Pattern.compile(
      "^[ \\t]*(?!(?:if|for|while|switch|return|else|do|new|case)\\b)[\\w\\[\\]<>, \\t]+\\(([^()]*)\\)\\s*\\{", Pattern.MULTILINE);
  // "some sixty lines"
  private static final int LONGEST_METHOD = 70;
  private static final int MOST_PARAMETERS = 7;

  public static void main(String[] args) throws Exception {
    String program = Files.readString(Path.of("src/main/java/TextIndices.java"), StandardCharsets.ISO_8859_1);
    String code = withoutCommentsAndTexts(program);
    absent(code, "[^\\x20-\\x7e\\s]");
    absent(code, "\\bpackage\\b");
    absent(code, "\\bimport\\s+(?!java\\.util\\.(?:Arrays|ArrayList|List|Iterator|\\*)\\s*;)");
    absent(code, "\\b(?:throws?|try|catch|finally|synchronized|assert|native|volatile|protected|hashCode)\\b");
    absent(code, "\\bpublic\\s+String\\s+toString\\b|\\w+Exact\\s*\\(|::");
    absent(code, "\\bSystem\\s*\\.\\s*(?!arraycopy)|\\bThread\\b|\\bRandom\\b|Math\\s*\\.\\s*random");
    for (String line : code.split("\n")) {
      if (line.contains("->") && !line.matches("\\s*(?:case\\b[^>]*|default\\s*)->.*")) {
        Check.due("no lambda in " + line, 1, 0);
      }
    }
    methods(code);
    Check.finish();
  }

  /** Each as many lines as before, so that places still tell lines. */
  private static String withoutCommentsAndTexts(String program) {
    return APART.matcher(program).replaceAll(m -> "\n".repeat((int) m.group().chars().filter(c -> c == '\n').count()));
  }

  private static void absent(String code, String pattern) {
    Matcher matcher = Pattern.compile(pattern).matcher(code);
    while (matcher.find()) {
      Check.due("line " + line(code, matcher.start()) + " has " + pattern, 1, 0);
    }
  }

  private static int line(String code, int place) {
    return 1 + (int) code.substring(0, place).chars().filter(c -> c == '\n').count();
  }

  private static void methods(String code) {
    Matcher matcher = METHOD.matcher(code);
    int methods = 0;
    while (matcher.find()) {
      methods++;
      int start = line(code, matcher.end());
      int lines = line(code, closing(code, matcher.end())) - start;
      if (lines > LONGEST_METHOD) {
        Check.due("lines of the method at line " + start, lines, LONGEST_METHOD);
      }
      if (matcher.group(1).split(",").length > MOST_PARAMETERS) {
        Check.due("parameters of the method at line " + start, matcher.group(1).split(",").length, MOST_PARAMETERS);
      }
    }
    Check.due("the face's methods are among those found", methods >= 15 ? 1 : 0, 1);
  }

  /** Where the block ends whose opening brace stands before the place. */
  private static int closing(String code, int place) {
    int open = 1;
    int end = place;
    while (end < code.length() && open > 0) {
      char c = code.charAt(end);
      open += c == '{' ? 1 : c == '}' ? -1 : 0;
      end++;
    }
    return end;
  }
}
