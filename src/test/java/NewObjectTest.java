/** Promise 1, and what the others answer about an object that is new. */
public final class NewObjectTest {
  public static void main(String[] args) {
    TextIndices x = new TextIndices();
    Check.due("texts", x.texts(), 0);
    for (int language = 0; language < 3; language++) {
      Check.due("stems", x.stems(language), 0);
      Check.due("stop of nothing", x.stop(language), 0);
      Check.due("ending of nothing", x.ending(language), TextIndices.NO);
      Check.due("stem of nothing", x.stem(language), TextIndices.NO);
      Check.due("like nothing", x.like(language, 3), TextIndices.NO);
      Check.due("ask of nothing", x.ask(language, -1), -10);
    }
    int[] places = {Integer.MIN_VALUE, -1, 0, 1, 39, 40, 400, Integer.MAX_VALUE};
    for (int i : places) {
      Check.due("answer", x.answer(i), TextIndices.NO);
      Check.due("score", x.score(i), 0);
      Check.due("word", x.word(i), TextIndices.NO);
      Check.due("at", x.at(i), TextIndices.BAD);
      Check.due("remove", x.remove(i), TextIndices.BAD);
      Check.due("place", x.place(i, 0, 0), TextIndices.BAD);
    }
    Check.due("the tape is empty", x.type('a', 1), 1);
    noStopsAndNoEndings();
    objectsAreApart();
    Check.finish();
  }

  private static void noStopsAndNoEndings() {
    Check c = new Check();
    c.stem("walking", 0, "walking");
    c.text("the walls", 0, 0, 0);
    c.ask("the", 0, -1, 0);
    Check.due("stems", c.x.stems(0), 2);
  }

  private static void objectsAreApart() {
    Check one = new Check();
    Check other = new Check();
    one.text("a b", 0, 0, 0);
    one.stop("a", 0, 1);
    one.type("b");
    Check.due("texts of another object", other.x.texts(), 0);
    other.tape(0);
    other.x.stem(0);
    other.stop("a", 0, 1);
    one.ask("", 0, -1, 0);
  }
}
