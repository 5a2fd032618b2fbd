/** Promises 3, 4, 14 and 15: texts come and go, and where their words stand. */
public final class TextTest {
  public static void main(String[] args) {
    numbers();
    words();
    places();
    removing();
    mostTexts();
    mostWords();
    Check.finish();
  }

  private static void numbers() {
    Check c = new Check();
    c.text("one", 0, 0, 0);
    c.text("", 1, 3, 1);
    c.text(" ,;", 2, 2, 2);
    Check.due("texts", c.x.texts(), 3);
    Check.due("place in a text without words", c.x.place(1, 0, 0), TextIndices.BAD);
    c.text("two", 2, 3, 3);
    Check.due("texts", c.x.texts(), 4);
    c.ask("one", 0, -1, 0);
    c.ask("one", 1, -1);
    c.ask("-one", 1, -1, 1);
    c.ask("two", 2, 3, 3);
    c.ask("two", 2, 2);
  }

  /** What parts words: all but letters and digits, those above 127 too. */
  private static void words() {
    Check c = new Check();
    c.text("AZaz09@[`{/:_-'\"*|\u00e9x\u00ffy\0z", 0, 0, 0);
    int[] starts = {0, 19, 21, 23};
    for (int i = 0; i < starts.length; i++) {
      Check.due("start of word " + i, c.x.place(0, i, 0), starts[i]);
    }
    Check.due("size of word 0", c.x.place(0, 0, 1), 6);
    Check.due("no word 4", c.x.place(0, 4, 0), TextIndices.BAD);
    c.ask("azaz09", 0, -1, 0);
    c.ask("AZAZ09 X y Z", 0, -1, 0);
    String[] apart = {"a@b", "a[b", "a`b", "a{b", "a/b", "a:b"};
    for (int i = 0; i < apart.length; i++) {
      c.text(apart[i], 1, 0, i + 1);
      Check.due("start behind a sign", c.x.place(i + 1, 1, 0), 2);
    }
  }

  private static void places() {
    Check c = new Check();
    c.text("  abcdefghijklmnop QRS. tu", 0, 0, 0);
    Check.due("start", c.x.place(0, 0, 0), 2);
    Check.due("size, all of its bytes", c.x.place(0, 0, 1), 16);
    Check.due("start", c.x.place(0, 1, 0), 19);
    Check.due("size", c.x.place(0, 1, 1), 3);
    Check.due("start", c.x.place(0, 2, 0), 24);
    Check.due("size at the end", c.x.place(0, 2, 1), 2);
    c.text("v", 0, 0, 1);
    Check.due("behind the last place", c.x.place(0, 3, 0), TextIndices.BAD);
    Check.due("of the next text", c.x.place(1, 0, 0), 0);
    int[] wrong = {-1, 2, 3, 40, 400, Integer.MIN_VALUE, Integer.MAX_VALUE};
    for (int i : wrong) {
      Check.due("place in text " + i, c.x.place(i, 0, 0), TextIndices.BAD);
      Check.due("part " + i, c.x.place(0, 0, i), TextIndices.BAD);
      Check.due("place " + i, c.x.place(1, i, 0), TextIndices.BAD);
    }
    c.stop("qrs", 0, 1);
    Check.due("a stop word keeps its place", c.x.place(0, 1, 0), 19);
    StringBuilder most = new StringBuilder();
    for (int i = 0; i < 48; i++) {
      most.append(" a");
    }
    c.text(most.toString(), 0, 0, 2);
    Check.due("start of word 47", c.x.place(2, 47, 0), 95);
    Check.due("no word 48", c.x.place(2, 48, 0), TextIndices.BAD);
    c.text("a".repeat(96), 0, 0, 3);
    Check.due("size of a whole tape", c.x.place(3, 0, 1), 96);
  }

  private static void removing() {
    Check c = new Check();
    c.text("rose", 0, 0, 0);
    c.text("rose rose", 0, 0, 1);
    c.text("rose", 0, 0, 2);
    c.ask("rose", 0, -1, 1, 0, 2);
    Check.due("remove", c.x.remove(1), 1);
    Check.due("remove again", c.x.remove(1), TextIndices.BAD);
    Check.due("the answer stays as it was", c.x.answer(0), 1);
    Check.due("texts", c.x.texts(), 2);
    Check.due("place in what went", c.x.place(1, 0, 0), TextIndices.BAD);
    c.ask("rose", 0, -1, 0, 2);
    c.scores(5342931457063200L / 2, 5342931457063200L / 2);
    c.text("walls", 0, 0, 3);
    Check.due("stems", c.x.stems(0), 2);
    Check.due("remove", c.x.remove(3), 1);
    Check.due("stems", c.x.stems(0), 1);
    c.like("wall", 0, 3);
    int[] wrong = {-1, 3, 4, 40, Integer.MIN_VALUE, Integer.MAX_VALUE};
    for (int i : wrong) {
      Check.due("remove " + i, c.x.remove(i), TextIndices.BAD);
    }
    Check.due("remove", c.x.remove(0), 1);
    Check.due("remove", c.x.remove(2), 1);
    Check.due("texts", c.x.texts(), 0);
    c.text("rose", 0, 0, 4);
    Check.due("texts", c.x.texts(), 1);
  }

  private static void mostTexts() {
    Check c = new Check();
    for (int i = 0; i < 40; i++) {
      c.text("w" + i, i % 3, i % 4, i);
    }
    c.text("w", 0, 0, TextIndices.FULL);
    c.tape(0);
    Check.due("stem of nothing", c.x.stem(0), TextIndices.NO);
    Check.due("BAD goes before FULL", c.type("w").x.text(3, 0), TextIndices.BAD);
    Check.due("remove", c.x.remove(39), 1);
    Check.due("numbers are not used again", c.x.text(0, 0), TextIndices.FULL);
    Check.due("texts", c.x.texts(), 39);
    Check.due("no text 40", c.x.remove(40), TextIndices.BAD);
  }

  private static void mostWords() {
    Check c = new Check();
    String most = "a ".repeat(48);
    for (int i = 0; i < 8; i++) {
      c.text(most, 0, 0, i);
    }
    c.text("b ".repeat(17), 0, 0, TextIndices.FULL);
    c.tape(0);
    c.x.stem(0);
    c.text("b ".repeat(15), 0, 0, 8);
    c.text("c d", 0, 0, TextIndices.FULL);
    Check.due("remove", c.x.remove(0), 1);
    c.text("c d", 0, 0, TextIndices.FULL);
    c.text("c", 0, 0, 9);
    c.text("e", 0, 0, TextIndices.FULL);
    c.text("-", 0, 0, 10);
    c.ask("c", 0, -1, 9);
    Check.due("place", c.x.place(9, 0, 1), 1);
    Check.due("stems", c.x.stems(0), 3);
  }
}
