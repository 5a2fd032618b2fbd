/** The boundary cases of promises 1 to 4, 14 and 15: a new object, the tape, texts and their places. */
public final class EdgesOfTextsTest {
  private static final String FULL_TAPE = "a ".repeat(48);

  public static void main(String[] args) {
    noTexts();
    noStopWords();
    noEndings();
    emptyTape();
    nothingTold();
    lowestBytes();
    bytesAbove127();
    behindTheTape();
    wrongNumbersOfBytes();
    fullTape();
    fullTapeStaysAsItWas();
    textOfAnyTape();
    wrongLanguagesOfTexts();
    wrongFieldsOfTexts();
    fortyTexts();
    fortyTextsThatWent();
    fourHundredWords();
    wordsTogetherAreOfAllTexts();
    textEmptiesTheTape();
    fullEmptiesTheTape();
    removing();
    removingWhatIsNotThere();
    numbersAreNotUsedAgain();
    whatWentIsNoMore();
    parts();
    otherParts();
    otherPlaces();
    otherTexts();
    allBytesOfAWord();
    counting();
    Check.finish();
  }

  private static void noTexts() {
    Check.sentence("1: No texts");
    Check c = new Check();
    Check.due("texts", c.x.texts(), 0);
    for (int i : new int[] {-1, 0, 1, 39, 40}) {
      Check.due("remove " + i, c.x.remove(i), TextIndices.BAD);
      Check.due("place in " + i, c.x.place(i, 0, 0), TextIndices.BAD);
    }
    for (int language = 0; language < 3; language++) {
      Check.due("stems", c.x.stems(language), 0);
      c.like("a", language, 3);
      for (int field = -1; field < 4; field++) {
        c.ask("-a", language, field);
        c.ask("a", language, field);
        c.ask("a*", language, field);
        c.ask("\"a\"", language, field);
      }
    }
    c.text("a", 0, 0, 0);
  }

  private static void noStopWords() {
    Check.sentence("1: no stop words");
    for (int language = 0; language < 3; language++) {
      Check c = new Check();
      c.text("the a 0", language, 0, 0);
      Check.due("stems", c.x.stems(language), 3);
      c.stop("the a 0", language, 3);
    }
  }

  private static void noEndings() {
    Check.sentence("1: no endings");
    for (int language = 0; language < 3; language++) {
      Check c = new Check();
      c.stem("walkings", language, "walkings");
      c.stem("0000", language, "0000");
      c.ending("s", language, 1);
    }
  }

  private static void emptyTape() {
    Check.sentence("1: an empty tape");
    Check.due("type", new TextIndices().type('a', 1), 1);
    Check.due("stop", new TextIndices().stop(0), 0);
    Check.due("ending", new TextIndices().ending(0), TextIndices.NO);
    Check.due("stem", new TextIndices().stem(0), TextIndices.NO);
    Check.due("ask", new TextIndices().ask(0, -1), -10);
    Check.due("like", new TextIndices().like(0, 3), TextIndices.NO);
    TextIndices x = new TextIndices();
    Check.due("text", x.text(0, 0), 0);
    Check.due("place", x.place(0, 0, 0), TextIndices.BAD);
  }

  private static void nothingTold() {
    Check.sentence("1: A new object");
    TextIndices x = new TextIndices();
    for (int i : new int[] {Integer.MIN_VALUE, -1, 0, 1, 11, 12, 39, 40, 399, 400, Integer.MAX_VALUE}) {
      Check.due("answer " + i, x.answer(i), TextIndices.NO);
      Check.due("score " + i, x.score(i), 0);
      Check.due("word " + i, x.word(i), TextIndices.NO);
      Check.due("at " + i, x.at(i), TextIndices.BAD);
    }
  }

  private static void lowestBytes() {
    Check.sentence("2: The lowest n bytes of bytes, the highest of them first");
    String all = "abcdefgh";
    for (int n = 1; n <= 8; n++) {
      Check c = new Check();
      Check.due("type " + n, c.x.type(0x6162636465666768L, n), n);
      Check.due("stem", c.x.stem(0), n);
      c.told(all.substring(8 - n));
    }
  }

  /** A word's end shows where a byte that is no letter stands; the sign of bytes does not count. */
  private static void bytesAbove127() {
    Check.sentence("2: The lowest n bytes of bytes");
    long[] rows = {0x6180616161616161L, 0x61ff616161616161L, 0x6100616161616161L, 0x617f616161616161L};
    for (long row : rows) {
      Check c = new Check();
      Check.due("type", c.x.type(row, 8), 8);
      c.text("", 0, 0, 0);
      Check.due("size", c.x.place(0, 0, 1), 1);
      Check.due("start", c.x.place(0, 1, 0), 2);
      Check.due("size", c.x.place(0, 1, 1), 6);
    }
    Check c = new Check();
    Check.due("type -1", c.x.type(-1L, 8), 8);
    Check.due("type the least", c.x.type(Long.MIN_VALUE, 8), 16);
    Check.due("type", c.x.type(0xffffffffffffff61L, 1), 17);
    Check.due("type", c.x.type(0x8080808080808062L, 1), 18);
    c.text("", 0, 0, 0);
    Check.due("start", c.x.place(0, 0, 0), 16);
    Check.due("size", c.x.place(0, 0, 1), 2);
  }

  private static void behindTheTape() {
    Check.sentence("2: come behind the tape: its length");
    Check c = new Check();
    long[] pieces = {'a', 0x6263L, 0x646566L, 0x6768696aL, 0x6b6cL};
    int[] lengths = {1, 3, 6, 10, 12};
    for (int i = 0; i < pieces.length; i++) {
      int n = lengths[i] - (i == 0 ? 0 : lengths[i - 1]);
      Check.due("type", c.x.type(pieces[i], n), lengths[i]);
    }
    Check.due("stem", c.x.stem(0), 12);
    c.told("abcdefghijkl");
    Check.due("type to a tape that was emptied", c.x.type('z', 1), 1);
  }

  private static void wrongNumbersOfBytes() {
    Check.sentence("2: BAD when n is not 1 .. 8");
    Check c = new Check();
    for (int n : Check.outside(1, 8)) {
      Check.due("type " + n, c.x.type(0x6161616161616161L, n), TextIndices.BAD);
    }
    Check.due("type to a tape still empty", c.x.type('b', 1), 1);
    for (int n : Check.outside(1, 8)) {
      Check.due("type " + n, c.x.type(0x6161616161616161L, n), TextIndices.BAD);
    }
    Check.due("type", c.x.type('c', 1), 2);
    Check.due("stem", c.x.stem(0), 2);
    c.told("bc");
    c.type(FULL_TAPE);
    for (int n : Check.outside(1, 8)) {
      Check.due("type to a full tape " + n, c.x.type('a', n), TextIndices.BAD);
    }
  }

  private static void fullTape() {
    Check.sentence("2: FULL when it would have more than 96");
    for (int free = 0; free <= 8; free++) {
      Check c = new Check();
      c.type(FULL_TAPE.substring(free));
      for (int n = free + 1; n <= 8; n++) {
        Check.due("type " + n + " to " + (96 - free), c.x.type(-1L, n), TextIndices.FULL);
      }
      if (free > 0) {
        Check.due("type " + free + " to " + (96 - free), c.x.type(0x2020202020202020L, free), 96);
      }
      Check.due("type to 97", c.x.type('a', 1), TextIndices.FULL);
      c.text("", 0, 0, 0);
      Check.due("type to a tape that was emptied", c.x.type(0L, 8), 8);
    }
  }

  /** Nothing of what is too long is taken, not even what would find room. */
  private static void fullTapeStaysAsItWas() {
    Check.sentence("2: FULL when it would have more than 96");
    Check c = new Check();
    c.type("b".repeat(90));
    Check.due("type 7", c.x.type(0x20632063206320L, 7), TextIndices.FULL);
    Check.due("type 3", c.x.type(0x206362L, 3), 93);
    Check.due("type 4", c.x.type(0x20632063L, 4), TextIndices.FULL);
    c.tape(93);
    c.text("", 0, 0, 0);
    Check.due("size", c.x.place(0, 0, 1), 90);
    Check.due("start", c.x.place(0, 1, 0), 91);
    Check.due("size", c.x.place(0, 1, 1), 2);
    Check.due("no more", c.x.place(0, 2, 0), TextIndices.BAD);
  }

  private static void textOfAnyTape() {
    Check.sentence("3: The tape is a text more: its number");
    Check c = new Check();
    c.text("", 0, 0, 0);
    c.text(" ", 1, 1, 1);
    c.text("-,;", 2, 2, 2);
    c.text(FULL_TAPE, 2, 3, 3);
    c.text("a".repeat(96), 0, 3, 4);
    c.text(" ".repeat(96), 0, 3, 5);
    c.text("\0\u00ff", 0, 3, 6);
    Check.due("texts", c.x.texts(), 7);
    c.ask("-b", 0, -1, 0, 4, 5, 6);
    c.ask("-b", 1, -1, 1);
    c.ask("-b", 2, -1, 2, 3);
  }

  private static void wrongLanguagesOfTexts() {
    Check.sentence("3: BAD for another language or field (the tape stays)");
    Check c = new Check();
    c.type("rose");
    for (int language : Check.outside(0, 2)) {
      Check.due("text in " + language, c.x.text(language, 0), TextIndices.BAD);
    }
    Check.due("texts", c.x.texts(), 0);
    c.tape(4);
    for (int language = 0; language < 3; language++) {
      c.text("rose", language, 0, language);
    }
    Check.due("place", c.x.place(0, 1, 0), 5);
  }

  private static void wrongFieldsOfTexts() {
    Check.sentence("3: BAD for another language or field (the tape stays)");
    Check c = new Check();
    c.type("rose");
    for (int field : Check.outside(0, 3)) {
      Check.due("text of " + field, c.x.text(0, field), TextIndices.BAD);
      Check.due("text of " + field, c.x.text(3, field), TextIndices.BAD);
    }
    Check.due("texts", c.x.texts(), 0);
    c.tape(4);
    for (int field = 0; field < 4; field++) {
      c.text("rose", 0, field, field);
    }
    Check.due("place", c.x.place(0, 1, 0), 5);
  }

  private static void fortyTexts() {
    Check.sentence("3: FULL when there were 40");
    Check c = new Check();
    for (int i = 0; i < 40; i++) {
      c.text(i == 39 ? "last" : "", i % 3, i % 4, i);
    }
    c.text("", 0, 0, TextIndices.FULL);
    c.text("one", 1, 1, TextIndices.FULL);
    c.text("one", 2, 3, TextIndices.FULL);
    Check.due("texts", c.x.texts(), 40);
    c.ask("last", 0, 3, 39);
    c.ask("one", 1, -1);
    c.type("one");
    Check.due("BAD all the same", c.x.text(3, 0), TextIndices.BAD);
    Check.due("BAD all the same", c.x.text(0, 4), TextIndices.BAD);
    c.tape(3);
  }

  private static void fortyTextsThatWent() {
    Check.sentence("3: FULL when there were 40");
    Check c = new Check();
    for (int i = 0; i < 40; i++) {
      c.text("a", 0, 0, i);
      Check.due("remove", c.x.remove(i), 1);
    }
    Check.due("texts", c.x.texts(), 0);
    c.text("a", 0, 0, TextIndices.FULL);
    c.text("", 2, 3, TextIndices.FULL);
    Check.due("texts", c.x.texts(), 0);
  }

  private static void fourHundredWords() {
    Check.sentence("3: FULL when all that there were would have more than 400 words together");
    Check c = new Check();
    for (int i = 0; i < 8; i++) {
      c.text(FULL_TAPE, i % 3, i % 4, i);
    }
    c.text("b ".repeat(17), 0, 0, TextIndices.FULL);
    Check.due("texts", c.x.texts(), 8);
    c.ask("b", 0, -1);
    c.text("b ".repeat(16), 0, 0, 8);
    c.text("c", 1, 0, TextIndices.FULL);
    c.text("c", 0, 0, TextIndices.FULL);
    c.text(" -", 0, 0, 9);
    c.text("", 2, 0, 10);
    c.text("c", 0, 0, TextIndices.FULL);
    Check.due("place of the last word", c.x.place(8, 15, 0), 30);
    Check.due("no place behind it", c.x.place(8, 16, 0), TextIndices.BAD);
    c.ask("b", 0, -1, 8);
    c.ask("c", 0, -1);
  }

  /** Those that went, and stop words, and words that were there before, are words too. */
  private static void wordsTogetherAreOfAllTexts() {
    Check.sentence("3: FULL when all that there were would have more than 400 words together");
    Check c = new Check();
    c.stop("a", 0, 1);
    for (int i = 0; i < 8; i++) {
      c.text(FULL_TAPE, 0, 0, i);
      Check.due("remove", c.x.remove(i), 1);
    }
    c.text("a ".repeat(15) + " abcdefghijklmnopq rst", 1, 0, TextIndices.FULL);
    c.text("a ".repeat(15) + " abcdefghijklmnopq", 1, 0, 8);
    Check.due("remove", c.x.remove(8), 1);
    c.text("a", 0, 0, TextIndices.FULL);
    c.text("a", 2, 0, TextIndices.FULL);
    c.text(";", 0, 0, 9);
  }

  private static void textEmptiesTheTape() {
    Check.sentence("3: The tape is empty then");
    Check c = new Check();
    c.text("rose", 0, 0, 0);
    c.tape(0);
    Check.due("text of a blank", c.x.text(0, 0), 1);
    Check.due("no word of the last one", c.x.place(1, 0, 0), TextIndices.BAD);
    Check.due("stem", c.x.stem(0), TextIndices.NO);
    c.text(FULL_TAPE, 0, 0, 2);
    c.tape(0);
  }

  private static void fullEmptiesTheTape() {
    Check.sentence("3: FULL .. The tape is empty then");
    Check c = new Check();
    for (int i = 0; i < 8; i++) {
      c.text(FULL_TAPE, 0, 0, i);
    }
    c.text("b ".repeat(17), 0, 0, TextIndices.FULL);
    c.tape(0);
    c.text("b", 0, 0, 8);
    Check.due("place", c.x.place(8, 0, 0), 1);
    for (int i = 9; i < 40; i++) {
      c.text("", 0, 0, i);
    }
    c.text("rose", 0, 0, TextIndices.FULL);
    c.tape(0);
    Check.due("stem", c.x.stem(0), TextIndices.NO);
  }

  private static void removing() {
    Check.sentence("4: A text goes: 1");
    Check c = new Check();
    for (int i = 0; i < 40; i++) {
      c.text("a", i % 3, i % 4, i);
    }
    c.type("rose");
    int[] order = {39, 0, 20, 1, 38};
    for (int i = 0; i < order.length; i++) {
      Check.due("remove " + order[i], c.x.remove(order[i]), 1);
      Check.due("texts", c.x.texts(), 39 - i);
      Check.due("place", c.x.place(order[i], 0, 0), TextIndices.BAD);
    }
    Check.due("place in one that stays", c.x.place(2, 0, 0), 0);
    Check.due("place in one that stays", c.x.place(37, 0, 0), 0);
    c.tape(4);
  }

  private static void removingWhatIsNotThere() {
    Check.sentence("4: BAD when there is none such");
    Check c = new Check();
    Check.due("remove of none", c.x.remove(0), TextIndices.BAD);
    c.text("a", 0, 0, 0);
    c.text("", 1, 0, 1);
    c.type("rose");
    for (int i : Check.outside(0, 1)) {
      Check.due("remove " + i, c.x.remove(i), TextIndices.BAD);
    }
    for (int i : new int[] {2, 39, 40, 41, 400}) {
      Check.due("remove " + i, c.x.remove(i), TextIndices.BAD);
    }
    Check.due("texts", c.x.texts(), 2);
    Check.due("remove 1", c.x.remove(1), 1);
    Check.due("remove 1 again", c.x.remove(1), TextIndices.BAD);
    Check.due("texts", c.x.texts(), 1);
    c.tape(4);
  }

  private static void numbersAreNotUsedAgain() {
    Check.sentence("4: Its number is not used again");
    Check c = new Check();
    c.text("a", 0, 0, 0);
    Check.due("remove", c.x.remove(0), 1);
    c.text("b", 0, 0, 1);
    c.text("c", 0, 0, 2);
    Check.due("remove", c.x.remove(2), 1);
    Check.due("remove", c.x.remove(1), 1);
    c.text("d", 0, 0, 3);
    Check.due("remove", c.x.remove(0), TextIndices.BAD);
    Check.due("remove", c.x.remove(1), TextIndices.BAD);
    Check.due("remove", c.x.remove(2), TextIndices.BAD);
    Check.due("texts", c.x.texts(), 1);
    c.ask("-x", 0, -1, 3);
  }

  private static void whatWentIsNoMore() {
    Check.sentence("4: A text goes");
    Check c = new Check();
    c.text("rose red", 0, 0, 0);
    c.text("rose wall", 0, 0, 1);
    Check.due("remove", c.x.remove(0), 1);
    c.ask("rose", 0, -1, 1);
    c.scores(5342931457063200L);
    c.ask("-x", 0, -1, 1);
    c.ask("red", 0, -1);
    c.ask("re*", 0, -1);
    c.ask("\"rose red\"", 0, -1);
    c.like("red", 0, 0);
    Check.due("stems", c.x.stems(0), 2);
    c.ask("-red", 0, 0, 1);
  }

  private static void parts() {
    Check.sentence("14: Where (the first byte) the word at a place stands in a text (part = 0), how long it is there (1)");
    Check c = new Check();
    c.text("a", 0, 0, 0);
    c.text("-bc ", 1, 0, 1);
    c.text(" ".repeat(95) + "d", 2, 0, 2);
    c.text(FULL_TAPE, 0, 0, 3);
    int[][] due = {{0, 0, 0, 1}, {1, 0, 1, 2}, {2, 0, 95, 1}, {3, 0, 0, 1}, {3, 1, 2, 1}, {3, 47, 94, 1}};
    for (int[] row : due) {
      Check.due("start", c.x.place(row[0], row[1], 0), row[2]);
      Check.due("size", c.x.place(row[0], row[1], 1), row[3]);
    }
    c.stop("a bc", 0, 2);
    Check.due("a stop word stands where it stood", c.x.place(3, 47, 0), 94);
  }

  private static void otherParts() {
    Check.sentence("14: BAD for other parts");
    Check c = new Check();
    c.text(" rose", 0, 0, 0);
    for (int part : Check.outside(0, 1)) {
      Check.due("part " + part, c.x.place(0, 0, part), TextIndices.BAD);
      Check.due("part " + part + " of no word", c.x.place(0, 1, part), TextIndices.BAD);
    }
  }

  private static void otherPlaces() {
    Check.sentence("14: BAD when there is none such");
    Check c = new Check();
    c.text("a b", 0, 0, 0);
    c.text("c", 0, 0, 1);
    c.text(",", 0, 0, 2);
    c.text("d e f", 0, 0, 3);
    int[] words = {2, 1, 0, 3};
    for (int text = 0; text < words.length; text++) {
      for (int place : Check.outside(0, words[text] - 1)) {
        Check.due("start " + place + " in " + text, c.x.place(text, place, 0), TextIndices.BAD);
        Check.due("size " + place + " in " + text, c.x.place(text, place, 1), TextIndices.BAD);
      }
      Check.due("the last place in " + text, c.x.place(text, words[text] - 1, 1), words[text] > 0 ? 1 : TextIndices.BAD);
    }
  }

  private static void otherTexts() {
    Check.sentence("14: BAD when there is none such");
    Check c = new Check();
    c.text("a b", 0, 0, 0);
    c.text("c", 0, 0, 1);
    c.type("d");
    for (int text : Check.outside(0, 1)) {
      Check.due("place in text " + text, c.x.place(text, 0, 0), TextIndices.BAD);
      Check.due("size in text " + text, c.x.place(text, 0, 1), TextIndices.BAD);
    }
    Check.due("remove", c.x.remove(0), 1);
    Check.due("place in what went", c.x.place(0, 0, 0), TextIndices.BAD);
    Check.due("size in what went", c.x.place(0, 1, 1), TextIndices.BAD);
    Check.due("place in what stays", c.x.place(1, 0, 0), 0);
    c.tape(1);
  }

  private static void allBytesOfAWord() {
    Check.sentence("14: how long it is there (1; all of its bytes)");
    Check c = new Check();
    int[] sizes = {1, 11, 12, 13, 95, 96};
    for (int i = 0; i < sizes.length; i++) {
      c.text("a".repeat(sizes[i]), 0, 0, i);
      Check.due("size", c.x.place(i, 0, 1), sizes[i]);
      Check.due("one word", c.x.place(i, 1, 1), TextIndices.BAD);
    }
    c.text("abcdefghijklmno.abcdefghijklm", 0, 0, 6);
    Check.due("start behind a long word", c.x.place(6, 1, 0), 16);
    Check.due("size", c.x.place(6, 1, 1), 13);
  }

  private static void counting() {
    Check.sentence("15: How many texts there are (those that went do not count)");
    Check c = new Check();
    Check.due("texts", c.x.texts(), 0);
    for (int i = 0; i < 40; i++) {
      c.text("", i % 3, 0, i);
      Check.due("texts", c.x.texts(), i + 1);
    }
    for (int i = 0; i < 40; i++) {
      Check.due("remove", c.x.remove(i), 1);
      Check.due("texts", c.x.texts(), 39 - i);
    }
  }
}
