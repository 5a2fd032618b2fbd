import java.nio.charset.StandardCharsets;
import java.util.Random;

/** Runs of 512 calls, the same in each run of this test, on the class and on the model. */
public final class ModelTest {
  private static final int RUNS = 3000;
  private static final int CALLS = 512;
  /** No step makes more calls, and none is made behind the last that the document answers for. */
  private static final int CALLS_OF_A_STEP = 80;
  private static final String[] WORDS = {"a", "b", "ab", "ba", "abc", "abcs", "abcing", "abced", "cab", "cabs", "cabing",
    "the", "of", "rose", "roses", "rosing", "Rose", "ROSES", "rise", "nose", "noses", "abcdefghijkl", "abcdefghijk",
    "abcdefghijklm", "abcdefghijks", "x1", "x2", "9", "berry", "berries", "berr"};
  private static final String[] ENDINGS = {"s", "es", "ing", "ed", "ies y", "ing e", "s xyz", "e", "jks 123456", "ry",
    "ing s", "a b c", "", "kl zz", "c cab"};
  private static final String SIGNS = " |-\"*aB,9&";

  private final Random random;
  private final TextIndices x = new TextIndices();
  private final Model model = new Model();
  private final StringBuilder log = new StringBuilder();
  private int calls = 0;
  private boolean right = true;

  private ModelTest(long seed) {
    random = new Random(seed);
  }

  public static void main(String[] args) {
    int wrong = 0;
    int runs = args.length > 0 ? Integer.parseInt(args[0]) : RUNS;
    for (int seed = 0; seed < runs && wrong < 3; seed++) {
      ModelTest run = new ModelTest(seed);
      run.play();
      if (!run.right) {
        wrong++;
        System.out.println("seed " + seed + ", last call wrong:\n" + run.log);
      }
    }
    if (wrong != 0) {
      System.exit(1);
    }
  }

  private void same(String call, long got, long want) {
    calls++;
    log.append(call).append(" = ").append(got).append('\n');
    if (got != want) {
      log.append("due is ").append(want).append('\n');
      right = false;
    }
  }

  private void play() {
    int style = random.nextInt(4);
    while (right && calls <= CALLS - CALLS_OF_A_STEP) {
      switch (random.nextInt(20)) {
        case 0, 1, 2, 3 -> text(style);
        case 4 -> stop(style);
        case 5 -> ending();
        case 6 -> stem();
        case 7, 8, 9, 10, 11, 12, 13 -> ask(style);
        case 14, 15 -> like();
        case 16 -> remove();
        case 17 -> places();
        case 18 -> odd();
        default -> counts();
      }
    }
  }

  private int upTo(int n) {
    return random.nextInt(n);
  }

  private int language() {
    return random.nextInt(30) == 0 ? random.nextInt(7) - 2 : random.nextInt(5) == 0 ? 1 + random.nextInt(2) : 0;
  }

  private String word() {
    if (upTo(12) == 0) {
      StringBuilder made = new StringBuilder();
      for (int i = upTo(14); i >= 0; i--) made.append((char) ('a' + upTo(3)));
      return made.toString();
    }
    return WORDS[upTo(WORDS.length)];
  }

  private void type(String tape) {
    byte[] bytes = tape.getBytes(StandardCharsets.ISO_8859_1);
    for (int start = 0; right && start < bytes.length; start += 8) {
      int n = Math.min(8, bytes.length - start);
      long value = upTo(3) == 0 ? -1 : 0;
      for (int i = 0; i < n; i++) value = value << 8 | (bytes[start + i] & 255);
      same("type(" + value + ", " + n + ") [" + tape.substring(start, start + n) + "]", x.type(value, n),
          model.type(value, n));
    }
  }

  private String joined(int most, String[] apart) {
    StringBuilder tape = new StringBuilder();
    for (int i = upTo(most + 1); i > 0; i--) tape.append(word()).append(apart[upTo(apart.length)]);
    return tape.length() > 96 ? tape.substring(0, 96) : tape.toString();
  }

  private void text(int style) {
    type(style == 0 ? "a ".repeat(upTo(49)) : joined(style == 1 ? 4 : 12, new String[] {" ", " ", ", ", "-", "\u00e9"}));
    int language = language();
    int field = upTo(20) == 0 ? upTo(8) - 2 : upTo(4);
    same("text(" + language + ", " + field + ")", x.text(language, field), model.text(language, field));
  }

  private void stop(int style) {
    if (style == 2 && upTo(4) != 0) return;
    type(joined(3, new String[] {" ", "|"}));
    int language = language();
    same("stop(" + language + ")", x.stop(language), model.stop(language));
  }

  private void ending() {
    if (upTo(3) == 0) return;
    type(ENDINGS[upTo(ENDINGS.length)]);
    int language = language();
    same("ending(" + language + ")", x.ending(language), model.ending(language));
  }

  private void stem() {
    type(joined(2, new String[] {" ", "."}));
    int language = language();
    same("stem(" + language + ")", x.stem(language), model.stem(language));
    told();
  }

  private void told() {
    for (int i = upTo(4); i >= 0 && right; i--) {
      int at = upTo(15) - 1;
      same("at(" + at + ")", x.at(at), model.at(at));
    }
  }

  private String part() {
    StringBuilder part = new StringBuilder(upTo(4) == 0 ? "-" : "");
    switch (upTo(6)) {
      case 0 -> {
        String word = word();
        part.append(word, 0, 1 + upTo(word.length())).append('*');
      }
      case 1, 2 -> {
        part.append('"').append(" ".repeat(upTo(2)));
        for (int i = upTo(3); i > 0; i--) part.append(word()).append(' ').append(" ".repeat(upTo(2)));
        part.append(word()).append(" ".repeat(upTo(2))).append('"');
      }
      default -> part.append(word());
    }
    return part.toString();
  }

  private void ask(int style) {
    StringBuilder tape = new StringBuilder();
    for (int i = upTo(6); i >= 0; i--) {
      tape.append(part());
      tape.append(i == 0 ? "" : upTo(3) == 0 ? " |".repeat(1) : upTo(8) == 0 ? "" : " ".repeat(1 + upTo(2)));
    }
    for (int i = style == 3 ? upTo(3) : upTo(12) == 0 ? 1 : 0; i > 0 && tape.length() > 0; i--) {
      int place = upTo(tape.length());
      if (upTo(2) == 0) tape.deleteCharAt(place);
      else tape.insert(place, SIGNS.charAt(upTo(SIGNS.length())));
    }
    type(tape.length() > 96 ? tape.substring(0, 96) : tape.toString());
    int language = language();
    int field = upTo(3) == 0 ? upTo(7) - 2 : -1;
    same("ask(" + language + ", " + field + ")", x.ask(language, field), model.ask(language, field));
    answers(upTo(5));
  }

  private void answers(int most) {
    for (int i = -1; i <= most && right; i++) {
      same("answer(" + i + ")", x.answer(i), model.answer(i));
      same("score(" + i + ")", x.score(i), model.score(i));
    }
  }

  private void like() {
    type(joined(2, new String[] {" ", "."}));
    int language = language();
    int changes = upTo(10) == 0 ? upTo(7) - 2 : upTo(4);
    same("like(" + language + ", " + changes + ")", x.like(language, changes), model.like(language, changes));
    for (int i = upTo(10) - 1; i >= -1 && right; i--) {
      same("word(" + i + ")", x.word(i), model.word(i));
      told();
    }
  }

  private void remove() {
    int text = upTo(42) - 1;
    if (upTo(2) == 0) same("remove(" + text + ")", x.remove(text), model.remove(text));
    answers(1);
  }

  private void places() {
    for (int i = upTo(4); i >= 0 && right; i--) {
      int text = upTo(20) - 1;
      int place = upTo(10) - 1;
      int part = upTo(8) == 0 ? upTo(6) - 2 : upTo(2);
      same("place(" + text + ", " + place + ", " + part + ")", x.place(text, place, part), model.place(text, place, part));
    }
  }

  private void odd() {
    long bytes = random.nextLong();
    int n = upTo(12) - 2;
    same("type(" + bytes + ", " + n + ")", x.type(bytes, n), model.type(bytes, n));
  }

  private void counts() {
    int language = language();
    same("texts()", x.texts(), model.texts());
    same("stems(" + language + ")", x.stems(language), model.stems(language));
  }
}
