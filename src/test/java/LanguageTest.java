/** Promises 5, 6, 7 and 16: stop words, endings, stems. */
public final class LanguageTest {
  public static void main(String[] args) {
    stops();
    manyStops();
    rules();
    wrongRules();
    stemming();
    longStems();
    countingStems();
    languagesAreApart();
    Check.finish();
  }

  private static void stops() {
    Check c = new Check();
    c.stop("the The a", 0, 2);
    c.stop("THE a of", 0, 1);
    c.stop("the", 1, 1);
    c.stop(" -", 0, 0);
    c.stop("abcdefghijklXX", 2, 1);
    c.stop("abcdefghijklYY", 2, 0);
    c.text("the rose of abcdefghijkl", 0, 0, 0);
    c.text("the rose", 1, 0, 1);
    Check.due("stems", c.x.stems(0), 2);
    Check.due("stems", c.x.stems(1), 1);
    c.stop("Rose", 0, 1);
    Check.due("stems by stop words as they are now", c.x.stems(0), 1);
    Check.due("stems of another language", c.x.stems(1), 1);
    c.ask("rose", 0, -1);
    c.ask("rose", 1, -1, 1);
    c.text("abcdefghijklmnopq", 2, 0, 2);
    Check.due("stop words are of 12 bytes", c.x.stems(2), 0);
  }

  private static void manyStops() {
    Check c = new Check();
    for (int i = 0; i < 30; i++) {
      StringBuilder tape = new StringBuilder();
      for (int j = 0; j < 32; j++) {
        tape.append((char) ('a' + i % 26)).append(i < 26 ? (char) (j < 10 ? '0' + j : 'a' + j - 10) : 'z');
        tape.append(' ');
      }
      c.stop(tape.toString(), 1, i < 26 ? 32 : 1);
      if (i == 25) {
        c.stop(tape.toString(), 1, 0);
      }
    }
    c.text("a0 av aw zv zw dz ez", 1, 0, 0);
    Check.due("stems", c.x.stems(1), 3);
  }

  private static void rules() {
    Check c = new Check();
    c.ending("ies y", 0, 1);
    c.ending("ES", 0, 2);
    c.ending("s", 0, 3);
    c.stem("berries", 0, "berry");
    c.stem("ties", 0, "tie");
    c.stem("boxes", 0, "box");
    c.stem("walls", 0, "wall");
    c.stem("walls", 1, "walls");
    c.ending("s", 1, 1);
    c.ending("wall x", 1, 2);
    c.stem("walls", 1, "wall");
    for (int i = 3; i <= 8; i++) {
      c.ending("s", 1, i);
    }
    c.ending("t", 1, TextIndices.FULL);
    c.tape(0);
    Check.due("NO goes before FULL", c.x.ending(1), TextIndices.NO);
    c.stem("cart", 1, "cart");
    c.ending("t", 0, 4);
  }

  private static void wrongRules() {
    Check c = new Check();
    c.ending("", 0, TextIndices.NO);
    c.ending("-- |", 0, TextIndices.NO);
    c.ending("a b c", 0, TextIndices.NO);
    c.stem("walla", 0, "walla");
    c.ending("a-b", 0, 1);
    c.stem("walla", 0, "wallb");
  }

  private static void stemming() {
    Check c = new Check();
    c.ending("ing", 0, 1);
    c.ending("g x", 0, 2);
    c.ending("in ing", 0, 3);
    c.stem("coming", 0, "com");
    c.stem("going", 0, "goinx");
    c.stem("ing", 0, "ing");
    c.stem("ting", 0, "tinx");
    c.stem("singing", 0, "sing");
    c.stem("  COMING, home", 0, "com");
    c.stem("comin", 0, "coming");
    c.stem("cominging", 0, "coming");
    c.stop("coming", 0, 1);
    c.stem("coming", 0, "com");
    Check.due("stem of nothing", c.type(" ;").x.stem(0), TextIndices.NO);
    c.told("com");
    Check.due("stem in no language", c.x.stem(3), TextIndices.BAD);
    c.told("com");
  }

  private static void longStems() {
    Check c = new Check();
    c.ending("l 123456789abcdef", 0, 1);
    c.stem("abcdefghijklmno", 0, "abcdefghijk1");
    c.stem("xyzl", 0, "xyz123456789");
    c.stem("abcdefghijk", 0, "abcdefghijk");
    c.ending("defghijkl z", 1, 1);
    c.stem("abcdefghijklz", 1, "abcz");
    c.ending("cdefghijkl z", 2, 1);
    c.stem("abcdefghijkl", 2, "abcdefghijkl");
    c.ending("abcdefghijklmn", 2, 2);
    c.stem("abcdefghijkl", 2, "abcdefghijkl");
  }

  private static void countingStems() {
    Check c = new Check();
    c.text("wall walls the", 0, 0, 0);
    c.text("walls walled the", 0, 1, 1);
    c.text("floor", 1, 0, 2);
    Check.due("stems", c.x.stems(0), 4);
    c.ending("s", 0, 1);
    Check.due("stems", c.x.stems(0), 3);
    c.ending("ed", 0, 2);
    Check.due("stems", c.x.stems(0), 2);
    c.text("WALLED walling", 0, 1, 3);
    Check.due("stems", c.x.stems(0), 3);
    c.stop("walls wall walling the", 0, 4);
    Check.due("a stem of other words", c.x.stems(0), 1);
    Check.due("remove", c.x.remove(1), 1);
    Check.due("stems", c.x.stems(0), 1);
    Check.due("remove", c.x.remove(3), 1);
    Check.due("stems", c.x.stems(0), 0);
    Check.due("stems", c.x.stems(1), 1);
    Check.due("stems", c.x.stems(2), 0);
    Check.due("stems", c.x.stems(3), TextIndices.BAD);
    Check.due("stems", c.x.stems(-1), TextIndices.BAD);
  }

  private static void languagesAreApart() {
    Check c = new Check();
    c.text("walls floors", 0, 0, 0);
    c.text("walls floors", 1, 0, 1);
    c.text("doors floors", 0, 0, 2);
    c.ending("s", 1, 1);
    c.stop("floors", 1, 1);
    c.ask("walls", 0, -1, 0);
    c.ask("doors", 0, -1, 2);
    c.ask("floors", 0, -1, 0, 2);
    c.ask("wall", 0, -1);
    c.ask("wall", 1, -1, 1);
    c.ask("floors", 1, -1);
    Check.due("stems", c.x.stems(0), 3);
    Check.due("stems", c.x.stems(1), 1);
  }
}
