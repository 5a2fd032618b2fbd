/** Promises 11, 12 and 13: words that are like another one, and their bytes. */
public final class LikeTest {
  public static void main(String[] args) {
    changes();
    order();
    whichWords();
    nothingToTell();
    longWords();
    Check.finish();
  }

  private static void changes() {
    Check c = new Check();
    c.text("rose roses ros hose rise nose arose or", 0, 0, 0);
    c.like("rose", 0, 0, "rose");
    c.like("rosy", 0, 0);
    c.like("ROSE", 0, 1, "rose", "arose", "hose", "nose", "rise", "ros", "roses");
    c.like("rosy", 0, 1, "ros", "rose");
    c.like("xhose", 0, 1, "hose");
    c.like("xxhose", 0, 2, "hose");
    c.like("hosexx", 0, 2, "hose");
    c.like("kitten", 0, 3);
    c.text("sitting ab ba", 0, 1, 1);
    c.like("kitten", 0, 3, "sitting");
    c.like("kitten", 0, 2);
    c.like("ab", 0, 1, "ab");
    c.like("ab", 0, 2, "ab", "ba", "or");
    c.like("abcde", 0, 3, "ab", "arose");
    c.like("zabz", 0, 3, "ab", "ba");
  }

  private static void order() {
    Check c = new Check();
    c.text("b9 ba b b0 bz bb bab 9b", 0, 0, 0);
    c.like("b", 0, 3, "b", "9b", "b0", "b9", "ba", "bb", "bz", "bab");
    c.like("bb", 0, 2, "bb", "9b", "b", "b0", "b9", "ba", "bab", "bz");
    Check.due("word(-1)", c.x.word(-1), TextIndices.NO);
    Check.due("word of the greatest", c.x.word(Integer.MAX_VALUE), TextIndices.NO);
    Check.due("word of the least", c.x.word(Integer.MIN_VALUE), TextIndices.NO);
  }

  /** Words, not stems, each once, of a language, no stop words, of texts that are there; as they were. */
  private static void whichWords() {
    Check c = new Check();
    c.ending("s", 0, 1);
    c.text("walls Wall wall", 0, 0, 0);
    c.text("walls walk", 0, 3, 1);
    c.text("call", 1, 0, 2);
    c.like("wall tall", 0, 1, "wall", "walk", "walls");
    c.like("wall", 1, 1, "call");
    c.like("wall", 2, 3);
    c.stop("wall", 0, 1);
    c.like("wall", 0, 1, "walk", "walls");
    c.x.remove(1);
    c.stop("walls", 0, 1);
    Check.due("as they were", c.x.word(0), 4);
    c.told("walk");
    Check.due("as they were", c.x.word(1), 5);
    c.told("walls");
    c.like("wall", 0, 3);
    Check.due("nothing more was told", c.x.at(4), 's');
  }

  private static void nothingToTell() {
    Check c = new Check();
    c.text("wall", 0, 0, 0);
    c.like("wall", 0, 0, "wall");
    Check.due("like in no language", c.type("x").x.like(3, 1), TextIndices.BAD);
    Check.due("like by 4", c.x.like(0, 4), TextIndices.BAD);
    Check.due("like by -1", c.x.like(0, -1), TextIndices.BAD);
    c.tape(1);
    Check.due("the words stay", c.x.word(0), 4);
    c.x.stem(0);
    c.told("x");
    Check.due("like no word", c.x.like(0, 1), TextIndices.NO);
    Check.due("there are none then", c.x.word(0), TextIndices.NO);
    c.told("x");
    c.like("wall", 0, 0, "wall");
    c.told("wall");
    c.stem("ab", 1, "ab");
    Check.due("word that is none", c.x.word(1), TextIndices.NO);
    c.told("ab");
    Check.due("word", c.x.word(0), 4);
    c.told("wall");
    Check.due("at the greatest", c.x.at(Integer.MAX_VALUE), TextIndices.BAD);
    Check.due("at the least", c.x.at(Integer.MIN_VALUE), TextIndices.BAD);
  }

  private static void longWords() {
    Check c = new Check();
    c.text("abcdefghijklmnop 0123456789xyz", 0, 0, 0);
    c.like("abcdefghijklZZZ", 0, 0, "abcdefghijkl");
    c.like("abcdefghi", 0, 3, "abcdefghijkl");
    c.like("abcdefgh", 0, 3);
    c.like("bcdefghijklm", 0, 2, "abcdefghijkl");
    c.like("0123456789xy", 0, 3, "0123456789xy");
    Check.due("at(11)", c.x.at(11), 'y');
    Check.due("at(12)", c.x.at(12), TextIndices.BAD);
  }
}
