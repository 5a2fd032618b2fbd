import java.util.Arrays;

/** The boundary cases of promises 11 to 13: words that are like another one, and what at() tells. */
public final class EdgesOfLikesTest {
  public static void main(String[] args) {
    noChange();
    oneChange();
    justEnoughChanges();
    moreBytesThanChanges();
    firstBytesAndLast();
    twelveBytes();
    firstWordOfTheTape();
    noTexts();
    wordsNotStems();
    noStopWords();
    noWord();
    wrongLanguages();
    wrongDistances();
    likeEmptiesTheTape();
    order();
    wordsOutside();
    fourHundredWords();
    asTheyWere();
    atOutside();
    atBeforeAnyWord();
    latestToldWord();
    Check.finish();
  }

  private static void noChange() {
    Check.sentence("11: by so many changes at most (0 .. 3)");
    Check c = new Check();
    c.text("rose ros roses rise", 0, 0, 0);
    c.like("rose", 0, 0, "rose");
    c.like("ROSE", 0, 0, "rose");
    c.like("ro", 0, 0);
    c.like("rosee", 0, 0);
  }

  private static void oneChange() {
    Check.sentence("11: a byte more, one less, another one");
    Check c = new Check();
    c.text("abc abcd xabc abxc ab bc ac xbc axc abx acb bac cba", 0, 0, 0);
    c.like("abc", 0, 1, "abc", "ab", "abcd", "abx", "abxc", "ac", "axc", "bc", "xabc", "xbc");
  }

  private static void justEnoughChanges() {
    Check.sentence("11: that become it by so many changes at most (0 .. 3)");
    Check c = new Check();
    // One word for each number of changes, for each kind of change.
    c.text("abcdef abcdex abcdxx abcxxx abxxxx", 0, 0, 0);
    c.text("abcdef abcde abcd abc ab", 1, 0, 1);
    c.text("abcdef abcdefx abcdefxx abcdefxxx abcdefxxxx", 2, 0, 2);
    String[][] words = {{"abcdef", "abcdex", "abcdxx", "abcxxx"}, {"abcdef", "abcde", "abcd", "abc"},
      {"abcdef", "abcdefx", "abcdefxx", "abcdefxxx"}};
    for (int language = 0; language < 3; language++) {
      for (int changes = 0; changes <= 3; changes++) {
        c.like("abcdef", language, changes, Arrays.copyOf(words[language], changes + 1));
      }
    }
  }

  private static void moreBytesThanChanges() {
    Check.sentence("11: that become it by so many changes at most (0 .. 3)");
    String all = "abcdefghijkl";
    for (int length = 1; length <= 12; length++) {
      Check c = new Check();
      c.text(all.substring(0, length), 0, 0, 0);
      for (int other = 1; other <= 12; other++) {
        int apart = Math.abs(length - other);
        Check.due("like " + other + " bytes", c.type(all.substring(0, other)).x.like(0, 3), apart <= 3 ? 1 : 0);
        int strange = Math.max(length, other);
        Check.due("like other bytes", c.type("zzzzzzzzzzzz".substring(0, other)).x.like(0, 3), strange <= 3 ? 1 : 0);
      }
    }
  }

  private static void firstBytesAndLast() {
    Check.sentence("11: a byte more, one less, another one");
    Check c = new Check();
    c.text("a abc", 0, 0, 0);
    c.like("xyza", 0, 3, "a");
    c.like("xabc", 0, 1, "abc");
    c.like("xyabc", 0, 2, "abc");
    c.like("xyzaq", 0, 3);
    c.like("b", 0, 1, "a");
    c.like("b", 0, 2, "a", "abc");
    c.like("bcd", 0, 2, "abc");
    c.like("cab", 0, 1);
    c.like("cab", 0, 2, "a", "abc");
    c.like("z", 0, 2, "a");
    c.like("z", 0, 3, "a", "abc");
    // One exchange and one that is less and more.
    c.like("acb", 0, 2, "a", "abc");
  }

  private static void twelveBytes() {
    Check.sentence("Terms: WORDS .. of each the first 12 bytes (of those that are alike too)");
    Check c = new Check();
    c.text("abcdefghijklmnop abcdefghijk abcdefghi", 0, 0, 0);
    c.like("abcdefghijkl", 0, 0, "abcdefghijkl");
    c.like("abcdefghijklXYZ", 0, 0, "abcdefghijkl");
    c.like("abcdefghijkl", 0, 1, "abcdefghijkl", "abcdefghijk");
    c.like("abcdefghijkl", 0, 3, "abcdefghijkl", "abcdefghijk", "abcdefghi");
    c.like("bcdefghijklm", 0, 1);
    c.like("bcdefghijklm", 0, 2, "abcdefghijkl");
    c.like("zzzdefghijkl", 0, 3, "abcdefghijkl");
    c.like("zzzzefghijkl", 0, 3);
    Check.due("word", c.type("abcdefghijkl").x.like(0, 0), 1);
    Check.due("length", c.x.word(0), 12);
    Check.due("at 11", c.x.at(11), 'l');
    Check.due("at 12", c.x.at(12), TextIndices.BAD);
  }

  private static void firstWordOfTheTape() {
    Check.sentence("11: Of the tape's first word");
    Check c = new Check();
    c.text("red rose", 0, 0, 0);
    c.like("--red, rose", 0, 0, "red");
    c.like("rose red", 0, 0, "rose");
    c.like(" ".repeat(92) + "rose", 0, 0, "rose");
    c.like("r".repeat(96), 0, 3);
  }

  private static void noTexts() {
    Check.sentence("11: words of texts of a language: how many");
    Check c = new Check();
    for (int language = 0; language < 3; language++) {
      c.like("a", language, 3);
      c.text("", language, 0, 2 * language);
      c.text(" ,", language, 1, 2 * language + 1);
      c.like("a", language, 3);
    }
    c.text("a", 1, 3, 6);
    c.like("a", 0, 3);
    c.like("a", 1, 3, "a");
    c.like("a", 2, 3);
    Check.due("remove", c.x.remove(6), 1);
    c.like("a", 1, 3);
  }

  private static void wordsNotStems() {
    Check.sentence("11: words (not stems) of texts of a language");
    Check c = new Check();
    c.ending("s", 0, 1);
    c.text("walls WALLS wallss", 0, 0, 0);
    c.text("walls", 0, 3, 1);
    c.like("walls", 0, 0, "walls");
    c.like("wall", 0, 0);
    c.like("wall", 0, 1, "walls");
    c.like("wall", 0, 2, "walls", "wallss");
  }

  private static void noStopWords() {
    Check.sentence("11: no stop words");
    Check c = new Check();
    c.text("the then they", 0, 0, 0);
    c.text("the", 1, 0, 1);
    c.stop("the", 0, 1);
    c.like("the", 0, 0);
    c.like("the", 0, 1, "then", "they");
    c.like("the", 1, 1, "the");
    c.stop("then they", 0, 2);
    c.like("the", 0, 3);
  }

  private static void noWord() {
    Check.sentence("11: NO when there is no word (there are none then)");
    Check c = new Check();
    c.text("rose", 0, 0, 0);
    for (String tape : new String[] {"", " ", "-\"|*", " ".repeat(96)}) {
      c.like("rose", 0, 3, "rose");
      Check.due("like of no word", c.type(tape).x.like(0, 3), TextIndices.NO);
      Check.due("there are none then", c.x.word(0), TextIndices.NO);
      c.told("rose");
      c.tape(0);
      c.x.stop(2);
    }
    Check.due("like of no word", c.x.like(0, 0), TextIndices.NO);
    Check.due("like of no word", c.x.like(2, 1), TextIndices.NO);
  }

  private static void wrongLanguages() {
    Check.sentence("11: BAD for another language or distance (the tape stays)");
    Check c = new Check();
    c.text("rose", 0, 0, 0);
    c.like("rose", 0, 0, "rose");
    c.type("ros");
    for (int language : Check.outside(0, 2)) {
      Check.due("like in " + language, c.x.like(language, 1), TextIndices.BAD);
    }
    Check.due("the words stay", c.x.word(0), 4);
    c.told("rose");
    c.tape(3);
    c.like("", 0, 1, "rose");
    Check.due("BAD without a word", c.x.like(3, 0), TextIndices.BAD);
    Check.due("the words stay", c.x.word(0), 4);
  }

  private static void wrongDistances() {
    Check.sentence("11: BAD for another language or distance (the tape stays)");
    Check c = new Check();
    c.text("rose", 0, 0, 0);
    c.like("rose", 0, 0, "rose");
    c.type("ros");
    for (int changes : Check.outside(0, 3)) {
      Check.due("like by " + changes, c.x.like(0, changes), TextIndices.BAD);
    }
    Check.due("the words stay", c.x.word(0), 4);
    c.told("rose");
    c.tape(3);
    c.like("", 0, 3, "rose");
    Check.due("BAD without a word", c.x.like(0, 4), TextIndices.BAD);
    Check.due("BAD without a word", c.x.like(0, -1), TextIndices.BAD);
    Check.due("the words stay", c.x.word(0), 4);
  }

  private static void likeEmptiesTheTape() {
    Check.sentence("11: The tape is empty then");
    Check c = new Check();
    c.text("rose", 0, 0, 0);
    c.like("rose red", 0, 0, "rose");
    c.tape(0);
    Check.due("like of a blank", c.x.like(0, 0), TextIndices.NO);
    c.tape(0);
    c.like("x", 0, 0);
    c.tape(0);
  }

  private static void order() {
    Check.sentence("12: by the fewest changes, then by their bytes (one that is the beginning of another one first)");
    Check c = new Check();
    c.text("zz ab aba abz ab0 ab9 0b zb a b bab cab abab 9ab", 0, 0, 0);
    c.like("ab", 0, 3, "ab", "0b", "9ab", "a", "ab0", "ab9", "aba", "abz", "b", "bab", "cab", "zb", "abab", "zz");
    c.like("ab", 0, 1, "ab", "0b", "9ab", "a", "ab0", "ab9", "aba", "abz", "b", "bab", "cab", "zb");
    c.text("abcdefghijkl abcdefghijk abcdefghij", 1, 0, 1);
    c.like("abcdefghijx", 1, 2, "abcdefghij", "abcdefghijk", "abcdefghijkl");
    c.text("aab aa aac", 2, 0, 2);
    c.like("aa0", 2, 1, "aa", "aab", "aac");
    c.like("bb", 2, 3, "aa", "aab", "aac");
    c.like("aabc", 2, 2, "aab", "aac", "aa");
  }

  private static void wordsOutside() {
    Check.sentence("12: NO when there is none");
    Check c = new Check();
    Check.due("word before any", c.x.word(0), TextIndices.NO);
    c.text("ab abc", 0, 0, 0);
    c.like("ab", 0, 1, "ab", "abc");
    for (int i : Check.outside(0, 1)) {
      Check.due("word " + i, c.x.word(i), TextIndices.NO);
    }
    c.told("abc");
    c.like("xyzxyz", 0, 0);
    Check.due("word where none is alike", c.x.word(0), TextIndices.NO);
    c.told("abc");
  }

  private static void fourHundredWords() {
    Check.sentence("11: how many (of 400 words)");
    Check c = new Check();
    for (int i = 0; i < 13; i++) {
      StringBuilder tape = new StringBuilder();
      for (int j = 32 * i; j < Math.min(400, 32 * i + 32); j++) {
        tape.append(sign(j / 36)).append(sign(j % 36)).append(' ');
      }
      c.text(tape.toString(), 0, 0, i);
    }
    Check.due("like by 1", c.type("00").x.like(0, 1), 47);
    Check.due("like by 2", c.type("00").x.like(0, 2), 400);
    Check.due("word 400", c.x.word(400), TextIndices.NO);
    for (int i : new int[] {0, 1, 35, 36, 46, 47, 399}) {
      Check.due("word " + i, c.x.word(i), 2);
    }
    c.told("b3");
    Check.due("word 0", c.x.word(0), 2);
    c.told("00");
    Check.due("word 36", c.x.word(36), 2);
    c.told("10");
    Check.due("word 46", c.x.word(46), 2);
    c.told("b0");
    Check.due("word 47", c.x.word(47), 2);
    c.told("11");
    Check.due("like of none", c.type("zzzzz").x.like(0, 3), 0);
    Check.due("word 0 of none", c.x.word(0), TextIndices.NO);
    Check.due("like by 3", c.type("zzzz").x.like(0, 3), 11);
    Check.due("like by 3", c.type("zzz").x.like(0, 3), 400);
  }

  private static char sign(int i) {
    return (char) (i < 10 ? '0' + i : 'a' + i - 10);
  }

  private static void asTheyWere() {
    Check.sentence("12: Word i (from 0) of those (as they were at like())");
    Check c = new Check();
    c.text("walls wall", 0, 0, 0);
    c.like("wall", 0, 1, "wall", "walls");
    c.x.remove(0);
    c.stop("wall", 0, 1);
    c.ending("s", 0, 1);
    c.text("walk", 0, 0, 1);
    c.ask("walk", 0, -1, 1);
    c.stem("xyz", 0, "xyz");
    Check.due("word 0", c.x.word(0), 4);
    c.told("wall");
    Check.due("word 1", c.x.word(1), 5);
    c.told("walls");
    Check.due("word 2", c.x.word(2), TextIndices.NO);
    c.like("wall", 0, 1, "walk");
  }

  private static void atOutside() {
    Check.sentence("13: Byte i; BAD when there is none");
    Check c = new Check();
    int[] lengths = {1, 2, 11, 12};
    for (int length : lengths) {
      c.stem("abcdefghijkl".substring(12 - length), 0, "abcdefghijkl".substring(12 - length));
      for (int i : Check.outside(0, length - 1)) {
        Check.due("at " + i + " of " + length, c.x.at(i), TextIndices.BAD);
      }
    }
    c.stem("AZ09az", 0, "az09az");
  }

  private static void atBeforeAnyWord() {
    Check.sentence("13: BAD when there is none");
    Check c = new Check();
    Check.due("at", c.x.at(0), TextIndices.BAD);
    c.text("rose", 0, 0, 0);
    Check.due("like", c.type("rose").x.like(0, 0), 1);
    Check.due("like alone tells no word", c.x.at(0), TextIndices.BAD);
    Check.due("stem", c.type(" ").x.stem(0), TextIndices.NO);
    Check.due("stem in 3", c.type("a").x.stem(3), TextIndices.BAD);
    Check.due("word", c.x.word(1), TextIndices.NO);
    Check.due("at", c.x.at(0), TextIndices.BAD);
    Check.due("word", c.x.word(0), 4);
    c.told("rose");
  }

  private static void latestToldWord() {
    Check.sentence("13: of the word told latest (by a stem() or word() that answered a length)");
    Check c = new Check();
    c.text("rose", 0, 0, 0);
    c.stem("ab", 0, "ab");
    Check.due("like", c.type("rose").x.like(0, 0), 1);
    c.told("ab");
    Check.due("word", c.x.word(0), 4);
    c.told("rose");
    c.stem("cde", 0, "cde");
    Check.due("word", c.x.word(1), TextIndices.NO);
    Check.due("word", c.x.word(-1), TextIndices.NO);
    c.told("cde");
    Check.due("stem", c.x.stem(0), TextIndices.NO);
    c.told("cde");
    Check.due("stem in 3", c.x.stem(3), TextIndices.BAD);
    c.told("cde");
    c.type("fg");
    c.told("cde");
    c.x.ask(0, -1);
    c.x.remove(0);
    c.stop("cde", 0, 1);
    c.ending("de", 0, 1);
    c.text("h", 0, 0, 1);
    c.told("cde");
  }
}
