import java.nio.charset.StandardCharsets;
import java.util.Arrays;
import java.util.stream.IntStream;

/** A new object under test, typed to in texts, and a count of the answers that were not due. */
final class Check {
  /** Near the limits, far from them, and such as become right ones when bits above are lost. */
  private static final int[] FAR = {Integer.MIN_VALUE, Integer.MIN_VALUE + 1, -65536, -256, -10, -3, 256, 257, 65536,
    1 << 30, Integer.MAX_VALUE - 1, Integer.MAX_VALUE};
  private static int wrong = 0;
  private static String sentence = "";
  final TextIndices x = new TextIndices();

  /** The document's words that the answers from here on are held against. */
  static void sentence(String quoted) {
    sentence = "[" + quoted + "] ";
  }

  static void due(String call, long got, long want) {
    if (got != want) {
      wrong++;
      System.out.println(sentence + call + " answered " + got + ", due is " + want);
    }
  }

  /** Numbers that are less than the least or more than the most. */
  static int[] outside(int least, int most) {
    int[] near = {least - 2, least - 1, most + 1, most + 2};
    return IntStream.concat(Arrays.stream(near), Arrays.stream(FAR)).filter(i -> i < least || i > most).toArray();
  }

  static void finish() {
    if (wrong != 0) {
      System.out.println(wrong + " answers are not as due");
      System.exit(1);
    }
  }

  /** Types to the tape, and looks that each piece was taken. */
  Check type(String tape) {
    byte[] bytes = tape.getBytes(StandardCharsets.ISO_8859_1);
    for (int start = 0; start < bytes.length; start += 8) {
      int n = Math.min(8, bytes.length - start);
      long value = 0;
      for (int i = 0; i < n; i++) {
        value = value << 8 | (bytes[start + i] & 255);
      }
      if (x.type(value, n) < n) {
        due("type of " + tape, -1, n);
      }
    }
    return this;
  }

  void text(String tape, int language, int field, long want) {
    due("text of " + tape, type(tape).x.text(language, field), want);
  }

  void stop(String tape, int language, long want) {
    due("stop of " + tape, type(tape).x.stop(language), want);
  }

  void ending(String tape, int language, long want) {
    due("ending of " + tape, type(tape).x.ending(language), want);
  }

  /** The question's answers, in their order. */
  void ask(String tape, int language, int field, int... texts) {
    due("ask of " + tape, type(tape).x.ask(language, field), texts.length);
    for (int i = 0; i < texts.length; i++) {
      due("answer " + i + " to " + tape, x.answer(i), texts[i]);
    }
    due("answer behind the last to " + tape, x.answer(texts.length), TextIndices.NO);
  }

  void fault(String tape, long place) {
    due("ask of " + tape, type(tape).x.ask(0, -1), -10 - place);
  }

  void scores(long... scores) {
    for (int i = 0; i < scores.length; i++) {
      due("score " + i, x.score(i), scores[i]);
    }
    due("score behind the last", x.score(scores.length), 0);
  }

  void stem(String tape, int language, String want) {
    due("stem of " + tape, type(tape).x.stem(language), want.length());
    told(want);
  }

  /** The words like the tape's first one, in their order. */
  void like(String tape, int language, int changes, String... words) {
    due("like of " + tape, type(tape).x.like(language, changes), words.length);
    for (int i = 0; i < words.length; i++) {
      due("word " + i + " like " + tape, x.word(i), words[i].length());
      told(words[i]);
    }
    due("word behind the last like " + tape, x.word(words.length), TextIndices.NO);
  }

  void told(String word) {
    for (int i = 0; i < word.length(); i++) {
      due("at(" + i + ") of " + word, x.at(i), word.charAt(i));
    }
    due("at behind the last of " + word, x.at(word.length()), TextIndices.BAD);
    due("at(-1) of " + word, x.at(-1), TextIndices.BAD);
  }

  /** How much is on the tape, seen by one byte more; the tape is left with it. */
  void tape(int length) {
    due("the tape's length", x.type(' ', 1), length + 1);
  }
}
