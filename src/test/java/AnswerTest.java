/** Promises 8, 9 and 10: which texts answer a question, in which order, by what score. */
public final class AnswerTest {
  private static final long WHOLE = 5342931457063200L;

  public static void main(String[] args) {
    words();
    beginnings();
    phrases();
    rows();
    stopWords();
    scores();
    order();
    asItWas();
    manyTexts();
    Check.finish();
  }

  private static void words() {
    Check c = new Check();
    c.ending("s", 0, 1);
    c.text("red roses", 0, 0, 0);
    c.text("a rose, a ROSE", 0, 1, 1);
    c.text("rosebud", 0, 2, 2);
    c.text("rose", 1, 0, 3);
    c.text("", 0, 3, 4);
    c.ask("rose", 0, -1, 1, 0);
    c.ask("ROSES", 0, -1, 1, 0);
    c.ask("rose", 0, 0, 0);
    c.ask("rose", 0, 1, 1);
    c.ask("rose", 0, 2);
    c.ask("rose", 1, -1, 3);
    c.ask("roses", 1, -1);
    c.ask("rose", 2, -1);
    c.ask("-rose", 0, -1, 2, 4);
    c.ask("-x", 0, 3, 4);
    c.ask("red rose", 0, -1, 0);
    c.ask("rose -red", 0, -1, 1);
    c.ask("rose -rose", 0, -1);
    // Rules are not used twice.
    c.text("wallss", 0, 0, 5);
    c.ask("x | wallss", 0, -1, 5);
    c.ask("walls", 0, -1);
  }

  /** By stems that begin with the word as it is. */
  private static void beginnings() {
    Check c = new Check();
    c.ending("ies y", 0, 1);
    c.ending("s", 0, 2);
    c.text("berries", 0, 0, 0);
    c.text("berry", 0, 0, 1);
    c.text("ber", 0, 0, 2);
    c.ask("ber*", 0, -1, 0, 1, 2);
    c.ask("BERR*", 0, -1, 0, 1);
    c.ask("berry*", 0, -1, 0, 1);
    c.ask("berri*", 0, -1);
    c.ask("berries*", 0, -1);
    c.ask("erry*", 0, -1);
    c.ask("-berr*", 0, -1, 2);
    c.stop("ber", 0, 1);
    c.ask("ber*", 0, -1, 0, 1);
    c.ask("b*", 0, -1, 0, 1);
    c.stop("berries berry", 0, 2);
    c.ask("b*", 0, -1);
  }

  private static void phrases() {
    Check c = new Check();
    c.ending("s", 0, 1);
    c.text("red roses grow", 0, 0, 0);
    c.text("roses red", 0, 0, 1);
    c.text("red and roses red rose", 0, 0, 2);
    c.text("red", 0, 0, 3);
    c.text("rose", 0, 0, 4);
    c.ask("\"red rose\"", 0, -1, 0, 2);
    c.ask("\"red\"", 0, -1, 0, 1, 2, 3);
    c.ask("\"rose red\"", 0, -1, 1, 2);
    c.ask("\"red rose grow\"", 0, -1, 0);
    c.ask("\"red rose grow x\"", 0, -1);
    c.ask("-\"red rose\"", 0, -1, 1, 3, 4);
    c.ask("\"red and\"", 0, -1, 2);
    c.ask("\"red the roses\"", 0, -1);
    c.stop("the and", 0, 2);
    c.ask("\"red the roses\"", 0, -1, 2);
    c.ask("\"the rose\"", 0, -1, 0, 2);
    c.ask("\"rose the\"", 0, -1, 0, 1, 2);
    c.ask("\"the red\"", 0, -1, 1, 2);
    c.ask("\"red the\"", 0, -1, 0, 2);
    c.ask("\"the and the\"", 0, -1, 0, 2);
    c.ask("\"the\"", 0, -1, 0, 1, 2, 3, 4);
    c.stop("roses", 0, 1);
    c.ask("\"red rose\"", 0, -1, 2);
    c.ask("\"red roses\"", 0, -1, 0, 2);
  }

  private static void rows() {
    Check c = new Check();
    c.text("a b", 0, 0, 0);
    c.text("b c", 0, 0, 1);
    c.text("c d", 0, 0, 2);
    c.ask("a | d", 0, -1, 0, 2);
    c.ask("a c | -b", 0, -1, 2);
    c.ask("a -b | c -d", 0, -1, 1);
    c.ask("-a | -c", 0, -1, 0, 1, 2);
    c.ask("-a -c", 0, -1);
    c.ask("-a b | x | a -c", 0, -1, 0, 1);
  }

  /** A stop word alone is answered by none, and is no score. */
  private static void stopWords() {
    Check c = new Check();
    c.ending("s", 0, 1);
    c.text("the rose", 0, 0, 0);
    c.text("rose", 0, 0, 1);
    c.stop("the roses", 0, 2);
    c.ask("the", 0, -1);
    c.ask("rose the", 0, -1);
    c.ask("roses", 0, -1);
    c.ask("-the", 0, -1, 0, 1);
    c.ask("rose -the", 0, -1, 0, 1);
    c.ask("rose | the", 0, -1, 0, 1);
    c.scores(WHOLE / 2, WHOLE / 2);
    c.ask("rose | roses", 0, -1, 0, 1);
    c.scores(WHOLE / 2, WHOLE / 2);
    c.ask("the*", 0, -1);
    c.text("theme", 0, 0, 2);
    c.ask("the*", 0, -1, 2);
    c.ask("the", 1, -1);
  }

  private static void scores() {
    Check c = new Check();
    c.ending("s", 0, 1);
    c.text("rose roses red", 0, 0, 0);
    c.text("rose", 0, 1, 1);
    c.text("red red red", 0, 1, 2);
    c.ask("rose", 0, -1, 0, 1);
    c.scores(2 * (WHOLE / 2), WHOLE / 2);
    c.ask("rose roses Rose", 0, -1, 0, 1);
    c.scores(2 * (WHOLE / 2), WHOLE / 2);
    c.ask("rose", 0, 1, 1);
    c.scores(WHOLE);
    c.ask("rose | red", 0, -1, 0, 2, 1);
    c.scores(2 * (WHOLE / 2) + WHOLE / 2, 3 * (WHOLE / 2), WHOLE / 2);
    c.ask("ros* | red", 0, -1, 2, 0, 1);
    c.scores(3 * (WHOLE / 2), WHOLE / 2, 0);
    c.ask("\"rose\"", 0, -1, 0, 1);
    c.scores(0, 0);
    c.ask("-x", 0, -1, 0, 1, 2);
    c.scores(0, 0, 0);
    c.ask("rose -red | x", 0, -1, 1);
    c.scores(WHOLE / 2);
    c.ask("x red | rose -x", 0, -1, 0, 1);
    c.scores(2 * (WHOLE / 2) + WHOLE / 2, WHOLE / 2);
    Check.due("score(-1)", c.x.score(-1), 0);
    Check.due("answer(-1)", c.x.answer(-1), TextIndices.NO);
    Check.due("score of the greatest", c.x.score(Integer.MAX_VALUE), 0);
    Check.due("answer of the greatest", c.x.answer(Integer.MAX_VALUE), TextIndices.NO);
    Check.due("score of the least", c.x.score(Integer.MIN_VALUE), 0);
  }

  private static void order() {
    Check c = new Check();
    c.text("a", 0, 0, 0);
    c.text("a a", 0, 0, 1);
    c.text("a", 0, 0, 2);
    c.text("a a a", 0, 0, 3);
    c.text("a a", 0, 0, 4);
    c.ask("a", 0, -1, 3, 1, 4, 0, 2);
    c.ask("a*", 0, -1, 0, 1, 2, 3, 4);
    c.ask("-b", 0, -1, 0, 1, 2, 3, 4);
  }

  /** Later texts, stop words and rules change no answer that was given. */
  private static void asItWas() {
    Check c = new Check();
    c.text("roses", 0, 0, 0);
    c.text("rose", 0, 0, 1);
    c.ask("rose", 0, -1, 1);
    c.scores(WHOLE);
    c.text("rose rose", 0, 0, 2);
    c.stop("rose", 0, 1);
    c.ending("s", 0, 1);
    c.x.remove(1);
    Check.due("answer", c.x.answer(0), 1);
    c.scores(WHOLE);
    c.ask("roses", 0, -1, 0);
    c.ask("rose", 0, -1);
    c.ask("x", 1, -1);
    Check.due("the latest question has no answer", c.x.answer(0), TextIndices.NO);
  }

  /** Shares of 1 .. 40 texts are exact, and greatest scores hold. */
  private static void manyTexts() {
    Check c = new Check();
    for (int i = 0; i < 40; i++) {
      c.text("a", 0, 0, i);
      Check.due("ask", c.type("a").x.ask(0, -1), i + 1);
      Check.due("score", c.x.score(i), WHOLE / (i + 1));
      Check.due("an exact share", c.x.score(i) * (i + 1), WHOLE);
    }
    Check most = new Check();
    most.text("a ".repeat(48), 0, 0, 0);
    most.ask("a", 0, -1, 0);
    most.scores(48 * WHOLE);
    StringBuilder words = new StringBuilder();
    for (int i = 0; i < 36; i++) {
      words.append((char) (i < 26 ? 'a' + i : '0' + i - 26)).append(' ');
    }
    most.text(words.toString(), 1, 0, 1);
    most.ask(words.toString(), 1, -1, 1);
    most.scores(36 * WHOLE);
  }
}
