/** The boundary cases of promises 9 and 10, and of what the Terms say of answers and scores. */
public final class EdgesOfAnswersTest {
  private static final long WHOLE = 5342931457063200L;

  public static void main(String[] args) {
    wordsSomewhere();
    wordsAtTheEndsOfATape();
    whatIsNoLetter();
    beginnings();
    beginningsAsTheyAre();
    phrasesAtTheEdges();
    phrasesStayInATheirText();
    stopWordsInPhrases();
    stopWordsAlone();
    partsOfARow();
    eachStemOnce();
    whatIsNoScore();
    noneHas();
    textsOfTheField();
    fortyShares();
    greatestScore();
    order();
    answersOutside();
    scoresOutside();
    fortyAnswers();
    asItWasThen();
    latestQuestion();
    Check.finish();
  }

  private static void wordsSomewhere() {
    Check.sentence("Terms: A text ANSWERS a word, when it has its stem somewhere");
    Check c = new Check();
    c.text("a b c", 0, 0, 0);
    c.text("c", 0, 0, 1);
    c.text("", 0, 0, 2);
    c.text("a", 1, 0, 3);
    c.ask("a", 0, -1, 0);
    c.ask("b", 0, -1, 0);
    c.ask("c", 0, -1, 0, 1);
    c.ask("d", 0, -1);
    c.ask("a", 2, -1);
  }

  private static void wordsAtTheEndsOfATape() {
    Check.sentence("Terms: WORDS of a text are its longest rows of letters and digits, of each the first 12 bytes");
    Check c = new Check();
    c.text("x".repeat(12) + " ".repeat(80) + "yyyy", 0, 0, 0);
    c.text("z".repeat(96), 0, 0, 1);
    c.text(" ".repeat(95) + "q", 0, 0, 2);
    c.ask("x".repeat(12), 0, -1, 0);
    c.ask("x".repeat(11), 0, -1);
    c.ask("yyyy", 0, -1, 0);
    c.ask("z".repeat(12), 0, -1, 1);
    c.ask("z".repeat(11), 0, -1);
    c.ask("q", 0, -1, 2);
    Check.due("stems", c.x.stems(0), 4);
  }

  private static void whatIsNoLetter() {
    Check.sentence("Terms: letters and digits (A .. Z count as a .. z); all else stands between them");
    for (int b = 0; b < 256; b++) {
      Check c = new Check();
      c.text("x" + (char) b + "y", 0, 0, 0);
      boolean in = b >= '0' && b <= '9' || b >= 'A' && b <= 'Z' || b >= 'a' && b <= 'z';
      Check.due("size of a word with byte " + b, c.x.place(0, 0, 1), in ? 3 : 1);
      Check.due("start behind byte " + b, c.x.place(0, 1, 0), in ? TextIndices.BAD : 2);
      String low = b >= 'A' && b <= 'Z' ? "x" + (char) (b + 32) + "y" : in ? "x" + (char) b + "y" : "x";
      c.stem("x" + (char) b + "y", 0, low);
    }
  }

  private static void beginnings() {
    Check.sentence("Terms: a word and *, when it has some stem that begins with the word");
    Check c = new Check();
    c.text("abcdefghijklmn", 0, 0, 0);
    c.text("abcdefghijk", 0, 0, 1);
    c.text("a", 0, 0, 2);
    c.text("b ab", 0, 0, 3);
    c.ask("a*", 0, -1, 0, 1, 2, 3);
    c.ask("ab*", 0, -1, 0, 1, 3);
    c.ask("abcdefghijk*", 0, -1, 0, 1);
    c.ask("abcdefghijkl*", 0, -1, 0);
    c.ask("abcdefghijkm*", 0, -1);
    c.ask("b*", 0, -1, 3);
    c.ask("A*", 0, -1, 0, 1, 2, 3);
    c.ask("-a*", 0, -1);
    c.ask("-ab*", 0, -1, 2);
  }

  private static void beginningsAsTheyAre() {
    Check.sentence("Terms: some stem that begins with the word (as it is, not its stem)");
    Check c = new Check();
    c.ending("s xy", 0, 1);
    c.text("walls", 0, 0, 0);
    c.ask("walls*", 0, -1);
    c.ask("walls", 0, -1, 0);
    c.ask("wallxy*", 0, -1, 0);
    c.ask("wallx*", 0, -1, 0);
    c.stop("walls", 0, 1);
    c.ask("w*", 0, -1);
    c.ask("-w*", 0, -1, 0);
  }

  private static void phrasesAtTheEdges() {
    Check.sentence("Terms: a PHRASE, when from some place on its words are those");
    Check c = new Check();
    c.text("a b c d", 0, 0, 0);
    String[] there = {"a", "d", "a b", "c d", "b c", "a b c d", "b c d"};
    for (String words : there) {
      c.ask("\"" + words + "\"", 0, -1, 0);
      c.ask("-\"" + words + "\"", 0, -1);
    }
    String[] none = {"b a", "a c", "d a", "d e", "x a", "a b c d e", "x a b c d", "a a", "a b d"};
    for (String words : none) {
      c.ask("\"" + words + "\"", 0, -1);
    }
    c.text("a a b", 0, 0, 1);
    c.ask("\"a a b\"", 0, -1, 1);
    c.ask("\"a b\"", 0, -1, 0, 1);
  }

  private static void phrasesStayInATheirText() {
    Check.sentence("Terms: from some place on its words are those (of one text)");
    Check c = new Check();
    c.text("a b", 0, 0, 0);
    c.text("c d", 0, 0, 1);
    c.stop("the", 0, 1);
    c.ask("\"b c\"", 0, -1);
    c.ask("\"b the\"", 0, -1);
    c.ask("\"the c\"", 0, -1);
    c.ask("\"a the\"", 0, -1, 0);
    c.ask("\"the d\"", 0, -1, 1);
    c.ask("\"a b the the\"", 0, -1);
    Check d = new Check();
    d.text("a b a b", 0, 0, 0);
    Check.due("remove", d.x.remove(0), 1);
    d.ask("\"a b\"", 0, -1);
  }

  private static void stopWordsInPhrases() {
    Check.sentence("Terms: each is a stop word of the language here (then any word may stand there, but one has to)");
    Check c = new Check();
    c.stop("the of", 0, 2);
    c.text("red rose", 0, 0, 0);
    c.text("red the rose", 0, 0, 1);
    c.text("red white rose", 0, 0, 2);
    c.text("red", 0, 0, 3);
    c.text("red one two rose", 0, 0, 4);
    c.text("", 0, 0, 5);
    c.ask("\"red the rose\"", 0, -1, 1, 2);
    c.ask("\"red of rose\"", 0, -1, 1, 2);
    c.ask("\"red the of rose\"", 0, -1, 4);
    c.ask("\"red the\"", 0, -1, 0, 1, 2, 4);
    c.ask("\"the red\"", 0, -1);
    c.ask("\"the rose\"", 0, -1, 0, 1, 2, 4);
    c.ask("\"red rose\"", 0, -1, 0);
    c.ask("\"white\"", 0, -1, 2);
    c.text("red the rose", 1, 0, 6);
    c.text("red a rose", 1, 0, 7);
    c.ask("\"red the rose\"", 1, -1, 6);
    // Those of the language that is asked in, not of others.
    c.stop("a", 2, 1);
    c.ask("\"red a rose\"", 1, -1, 7);
  }

  private static void stopWordsAlone() {
    Check.sentence("Terms: A stop word alone is answered by none");
    Check c = new Check();
    c.text("the rose", 0, 0, 0);
    c.text("the rose", 1, 0, 1);
    c.ask("the", 0, -1, 0);
    c.stop("the", 0, 1);
    c.ask("the", 0, -1);
    c.ask("THE", 0, 0);
    c.ask("rose the", 0, -1);
    c.ask("the | rose", 0, -1, 0);
    c.ask("-the", 0, -1, 0);
    c.ask("the", 1, -1, 1);
    // Its stem may be that of other words, and still none answers it.
    c.ending("s", 0, 1);
    c.text("wall walls", 0, 0, 2);
    c.stop("walls", 0, 1);
    c.ask("walls", 0, -1);
    c.ask("wall", 0, -1, 2);
    c.scores(WHOLE);
    // With * it is a beginning, of other words' stems too.
    c.text("theme", 0, 0, 3);
    c.ask("the*", 0, -1, 3);
  }

  private static void partsOfARow() {
    Check.sentence("Terms: A row is answered by what answers all its parts without -, and none with -");
    Check c = new Check();
    c.text("a b", 0, 0, 0);
    c.text("a c", 0, 0, 1);
    c.text("b c", 0, 0, 2);
    c.text("", 0, 0, 3);
    c.ask("a b", 0, -1, 0);
    c.ask("a -b", 0, -1, 1);
    c.ask("-a", 0, -1, 2, 3);
    c.ask("-a -b", 0, -1, 3);
    c.ask("-a -b -c", 0, -1, 3);
    c.ask("a -a", 0, -1);
    c.ask("a b c", 0, -1);
    c.ask("a -b | b -c", 0, -1, 0, 1);
    c.ask("a b | b c | a c", 0, -1, 0, 1, 2);
    c.ask("a -a | -a a | -c -b", 0, -1, 3);
  }

  private static void eachStemOnce() {
    Check.sentence("Terms: of all words of all rows, each stem once");
    Check c = new Check();
    c.ending("s", 0, 1);
    c.text("wall walls WALL", 0, 0, 0);
    c.text("wall red", 0, 0, 1);
    c.ask("wall", 0, -1, 0, 1);
    c.scores(3 * (WHOLE / 2), WHOLE / 2);
    c.ask("wall walls wall", 0, -1, 0, 1);
    c.scores(3 * (WHOLE / 2), WHOLE / 2);
    c.ask("wall | walls | Wall wall", 0, -1, 0, 1);
    c.scores(3 * (WHOLE / 2), WHOLE / 2);
    c.ask("wall red | red | wall", 0, -1, 0, 1);
    c.scores(3 * (WHOLE / 2), WHOLE + WHOLE / 2);
    // A row's words count for what answers another one too.
    c.ask("red x | wall", 0, -1, 0, 1);
    c.scores(3 * (WHOLE / 2), WHOLE + WHOLE / 2);
    c.ask("wall ".repeat(19), 0, -1, 0, 1);
    c.scores(3 * (WHOLE / 2), WHOLE / 2);
  }

  private static void whatIsNoScore() {
    Check.sentence("Terms: of all words (without *, not in phrases, without -, no stop words)");
    Check c = new Check();
    c.text("a b", 0, 0, 0);
    c.text("c a", 0, 0, 1);
    c.ask("a*", 0, -1, 0, 1);
    c.scores(0, 0);
    c.ask("\"a\"", 0, -1, 0, 1);
    c.scores(0, 0);
    c.ask("-x", 0, -1, 0, 1);
    c.scores(0, 0);
    c.ask("-b | b", 0, -1, 0, 1);
    c.scores(WHOLE, 0);
    c.ask("-b | x", 0, -1, 1);
    c.scores(0);
    c.ask("-c | a*", 0, -1, 0, 1);
    c.scores(0, 0);
    c.stop("b", 0, 1);
    c.ask("a | b", 0, -1, 0, 1);
    c.scores(WHOLE / 2, WHOLE / 2);
    c.ask("a -b", 0, -1, 0, 1);
    c.scores(WHOLE / 2, WHOLE / 2);
    c.ask("b | a*", 0, -1, 0, 1);
    c.scores(0, 0);
  }

  private static void noneHas() {
    Check.sentence("Terms: divided by how many texts of the language have it (0 if none has)");
    Check c = new Check();
    c.text("a", 0, 0, 0);
    c.text("q", 1, 0, 1);
    c.text("q", 0, 0, 2);
    Check.due("remove", c.x.remove(2), 1);
    c.ask("a | x", 0, -1, 0);
    c.scores(WHOLE);
    c.ask("x | y | q | -z", 0, -1, 0);
    c.scores(0);
    c.ask("x", 0, -1);
    c.scores();
  }

  private static void textsOfTheField() {
    Check.sentence("Terms: how many texts of the language (in that field, if one is asked) have it");
    Check c = new Check();
    c.text("a a", 0, 0, 0);
    c.text("a b", 0, 3, 1);
    c.text("a", 0, 3, 2);
    c.text("a", 1, 3, 3);
    c.ask("a", 0, -1, 0, 1, 2);
    c.scores(2 * (WHOLE / 3), WHOLE / 3, WHOLE / 3);
    c.ask("a", 0, 3, 1, 2);
    c.scores(WHOLE / 2, WHOLE / 2);
    c.ask("a", 0, 0, 0);
    c.scores(2 * WHOLE);
    c.ask("a", 1, 3, 3);
    c.scores(WHOLE);
    c.ask("a", 0, 1);
    // Of all texts that have it, not of those that answer.
    c.ask("a -b", 0, -1, 0, 2);
    c.scores(2 * (WHOLE / 3), WHOLE / 3);
    Check.due("remove", c.x.remove(2), 1);
    c.ask("a -b", 0, -1, 0);
    c.scores(2 * (WHOLE / 2));
  }

  private static void fortyShares() {
    Check.sentence("Terms: the sum, times 5342931457063200");
    Check c = new Check();
    for (int i = 0; i < 40; i++) {
      c.text(i == 39 ? "a a b" : "a", 0, i % 4, i);
    }
    Check.due("ask", c.type("a").x.ask(0, -1), 40);
    Check.due("first", c.x.answer(0), 39);
    Check.due("score of two", c.x.score(0), 267146572853160L);
    Check.due("score of one", c.x.score(1), 133573286426580L);
    Check.due("score of the last one", c.x.score(39), 133573286426580L);
    for (int left = 39; left >= 1; left--) {
      Check.due("remove", c.x.remove(39 - left), 1);
      Check.due("ask", c.type("a | b").x.ask(0, -1), left);
      Check.due("score of the first", c.x.score(0), WHOLE + 2 * (WHOLE / left));
      Check.due("score of the last", c.x.score(left - 1), left == 1 ? 3 * WHOLE : WHOLE / left);
      Check.due("a share is exact", WHOLE % left, 0);
    }
  }

  private static void greatestScore() {
    Check.sentence("Terms: how often the text has it; the sum, times 5342931457063200");
    Check c = new Check();
    c.text("a ".repeat(48), 0, 0, 0);
    c.ask("a", 0, -1, 0);
    c.scores(256460709939033600L);
    c.text("a ".repeat(24) + "b ".repeat(24), 1, 0, 1);
    c.ask("a b", 1, -1, 1);
    c.scores(256460709939033600L);
    c.text("b", 1, 0, 2);
    c.ask("a | b", 1, -1, 1, 2);
    c.scores(24 * WHOLE + 12 * WHOLE, WHOLE / 2);
  }

  private static void order() {
    Check.sentence("Terms: ANSWERS stand by score, the greatest first, then by number");
    Check c = new Check();
    c.text("a", 0, 0, 0);
    c.text("a a a", 0, 0, 1);
    c.text("a", 0, 1, 2);
    c.text("a a", 0, 0, 3);
    c.text("b a a a", 0, 0, 4);
    c.text("a", 0, 0, 5);
    c.ask("a", 0, -1, 1, 4, 3, 0, 2, 5);
    c.ask("a*", 0, -1, 0, 1, 2, 3, 4, 5);
    c.ask("a | b", 0, -1, 4, 1, 3, 0, 2, 5);
    Check d = new Check();
    for (int i = 0; i < 40; i++) {
      d.text("a ".repeat(1 + i / 4), 0, 0, i);
    }
    Check.due("ask", d.type("a").x.ask(0, -1), 40);
    for (int i = 0; i < 40; i++) {
      Check.due("answer " + i, d.x.answer(i), 36 - i / 4 * 4 + i % 4);
    }
  }

  private static void answersOutside() {
    Check.sentence("9: NO when there is none");
    Check c = new Check();
    c.text("a", 0, 0, 0);
    c.text("a", 0, 0, 1);
    c.ask("a", 0, -1, 0, 1);
    for (int i : Check.outside(0, 1)) {
      Check.due("answer " + i, c.x.answer(i), TextIndices.NO);
    }
    c.ask("x", 0, -1);
    for (int i : new int[] {-1, 0, 1}) {
      Check.due("answer " + i, c.x.answer(i), TextIndices.NO);
    }
  }

  private static void scoresOutside() {
    Check.sentence("10: 0 when there is none");
    Check c = new Check();
    c.text("a", 0, 0, 0);
    c.text("a", 0, 0, 1);
    c.ask("a", 0, -1, 0, 1);
    for (int i : Check.outside(0, 1)) {
      Check.due("score " + i, c.x.score(i), 0);
    }
    c.ask("x", 0, -1);
    for (int i : new int[] {-1, 0, 1}) {
      Check.due("score " + i, c.x.score(i), 0);
    }
  }

  private static void fortyAnswers() {
    Check.sentence("9: Answer i (from 0) of the latest question");
    Check c = new Check();
    for (int i = 0; i < 40; i++) {
      c.text("", 2, i % 4, i);
    }
    Check.due("ask", c.type("-a").x.ask(2, -1), 40);
    for (int i = 0; i < 40; i++) {
      Check.due("answer " + i, c.x.answer(i), i);
      Check.due("score " + i, c.x.score(i), 0);
    }
    Check.due("answer 40", c.x.answer(40), TextIndices.NO);
    Check.due("answer -1", c.x.answer(-1), TextIndices.NO);
  }

  private static void asItWasThen() {
    Check.sentence("9: of the latest question without a fault (as it was then)");
    Check c = new Check();
    c.text("a a", 0, 0, 0);
    c.text("a", 0, 0, 1);
    c.ask("a", 0, -1, 0, 1);
    c.x.remove(0);
    c.stop("a", 0, 1);
    c.ending("a", 0, 1);
    c.text("a a a", 0, 0, 2);
    c.x.stem(0);
    c.x.like(0, 0);
    Check.due("answer 0", c.x.answer(0), 0);
    Check.due("answer 1", c.x.answer(1), 1);
    Check.due("answer 2", c.x.answer(2), TextIndices.NO);
    c.scores(WHOLE, WHOLE / 2);
  }

  private static void latestQuestion() {
    Check.sentence("9: of the latest question");
    Check c = new Check();
    c.text("a b", 0, 0, 0);
    c.text("b", 0, 0, 1);
    c.text("c", 1, 0, 2);
    c.ask("b", 0, -1, 0, 1);
    c.ask("a", 0, -1, 0);
    c.scores(WHOLE);
    c.ask("c", 1, -1, 2);
    c.ask("c", 0, -1);
    c.scores();
    c.ask("b", 0, 0, 0, 1);
    c.ask("b", 0, 1);
  }
}
