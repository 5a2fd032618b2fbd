import java.lang.reflect.Method;
import java.nio.charset.StandardCharsets;
import java.nio.file.Files;
import java.nio.file.Path;
import java.util.ArrayList;
import java.util.Arrays;
import java.util.List;
import java.util.Set;
import java.util.TreeSet;
import java.util.regex.Matcher;
import java.util.regex.Pattern;

/** README.md says what is so: its calls are the face's, and its examples answer as it tells. */
public final class ReadmeTest {
  private static final Pattern CALL = Pattern.compile("^\\| `((?:int|long) (\\w+)\\([^)]*\\))` \\|", Pattern.MULTILINE);
  private static final Pattern STEP = Pattern.compile("^x\\.(\\w+)\\(([^)]*)\\);\\s*// (\\d+)", Pattern.MULTILINE);
  private static final Pattern TEXT = Pattern.compile("^text (\\d): (.*)$", Pattern.MULTILINE);
  private static final Pattern QUESTION = Pattern.compile("^(.*?) +=>  (.*)$", Pattern.MULTILINE);

  public static void main(String[] args) throws Exception {
    String readme = Files.readString(Path.of("README.md"), StandardCharsets.UTF_8);
    calls(readme);
    steps(readme);
    questions(readme);
    Check.finish();
  }

  private static void calls(String readme) {
    Set<String> told = new TreeSet<>();
    for (Matcher m = CALL.matcher(readme); m.find(); ) {
      told.add(m.group(1).replaceAll(" \\w+(?=[,)])", "").replace(", ", ","));
    }
    Set<String> due = new TreeSet<>();
    for (Method method : TextIndices.class.getMethods()) {
      if (method.getDeclaringClass() == TextIndices.class) {
        due.add(method.toString().replace("public ", "").replace("TextIndices.", ""));
      }
    }
    Check.sentence("README.md: the fifteen calls");
    Check.due("calls told", told.size(), 15);
    Check.due("they are " + told, told.equals(due) ? 1 : 0, 1);
  }

  /** The calls of the Java example, on one object. */
  private static void steps(String readme) throws Exception {
    Check.sentence("README.md: the calls of the example");
    TextIndices x = new TextIndices();
    int steps = 0;
    for (Matcher m = STEP.matcher(readme); m.find(); steps++) {
      String call = "x." + m.group(1) + "(" + m.group(2) + ")";
      Check.due(call, answerOf(x, m.group(1), m.group(2).split(",")), Long.parseLong(m.group(3)));
    }
    Check.due("steps", steps, 11);
  }

  private static long answerOf(TextIndices x, String name, String[] written) throws Exception {
    for (Method method : TextIndices.class.getMethods()) {
      if (method.getName().equals(name)) {
        Object[] arguments = new Object[written.length];
        for (int i = 0; i < written.length; i++) {
          long value = Long.decode(written[i].trim().replace("L", ""));
          if (method.getParameterTypes()[i] == int.class) {
            arguments[i] = (int) value;
          } else {
            arguments[i] = value;
          }
        }
        return ((Number) method.invoke(x, arguments)).longValue();
      }
    }
    throw new IllegalArgumentException("no call " + name);
  }

  private static void questions(String readme) {
    Check.sentence("README.md: these questions have these answers");
    Check c = new Check();
    c.stop("the a is are", 0, 4);
    c.ending("s", 0, 1);
    int texts = 0;
    for (Matcher m = TEXT.matcher(readme); m.find(); texts++) {
      c.text(m.group(2), 0, texts, Long.parseLong(m.group(1)));
    }
    Check.due("texts", texts, 3);
    List<String> asked = new ArrayList<>();
    for (Matcher m = QUESTION.matcher(readme); m.find(); ) {
      asked.add(m.group(1));
      question(c, m.group(1), m.group(2));
    }
    Check.due("questions " + asked, asked.size(), 16);
  }

  private static void question(Check c, String tape, String due) {
    if (due.startsWith("fault ")) {
      Check.due("ask of " + tape, c.type(tape).x.ask(0, -1), Long.parseLong(due.substring(6)));
    } else if (due.equals("none")) {
      c.ask(tape, 0, -1);
    } else {
      c.ask(tape, 0, -1, Arrays.stream(due.split(" ")).mapToInt(Integer::parseInt).toArray());
    }
  }
}
