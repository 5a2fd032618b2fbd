import java.util.function.ToIntFunction;

/** What is refused changes nothing but the tape: an object that was not asked answers all else the same. */
public final class RefusedTest {
  public static void main(String[] args) {
    for (int language : new int[] {-1, 3}) {
      keeps("3: BAD for another language (the tape stays)", "rose", -1, x -> x.text(language, 0));
      keeps("5: BAD likewise", "rose", -1, x -> x.stop(language));
      keeps("6: BAD likewise", "s", -1, x -> x.ending(language));
      keeps("7: BAD likewise (the tape stays)", "rose", -1, x -> x.stem(language));
      keeps("8: BAD likewise (the tape stays)", "rose", -1, x -> x.ask(language, -1));
      keeps("11: BAD for another language (the tape stays)", "rose", -1, x -> x.like(language, 3));
      keeps("16: BAD: no such language", "rose", -1, x -> x.stems(language));
    }
    keeps("3: BAD for another field (the tape stays)", "rose", -1, x -> x.text(0, -1));
    keeps("3: BAD for another field (the tape stays)", "rose", -1, x -> x.text(0, 4));
    keeps("8: BAD likewise (the tape stays)", "rose", -1, x -> x.ask(0, -2));
    keeps("8: BAD likewise (the tape stays)", "rose", -1, x -> x.ask(0, 4));
    keeps("11: BAD for another distance (the tape stays)", "rose", -1, x -> x.like(0, -1));
    keeps("11: BAD for another distance (the tape stays)", "rose", -1, x -> x.like(0, 4));
    keeps("2: BAD when n is not 1 .. 8", "rose", -1, x -> x.type(-1L, 0));
    keeps("2: BAD when n is not 1 .. 8", "rose", -1, x -> x.type(-1L, 9));
    keeps("2: FULL when it would have more than 96", "rose ".repeat(18), -3, x -> x.type(-1L, 7));
    keeps("4: BAD when there is none such", "rose", -1, x -> x.remove(-1));
    keeps("4: BAD when there is none such", "rose", -1, x -> x.remove(1));
    keeps("4: BAD when there is none such", "rose", -1, x -> x.remove(4));
    keeps("9: NO when there is none", "rose", -2, x -> x.answer(9));
    keeps("10: 0 when there is none", "rose", 0, x -> (int) x.score(9));
    keeps("12: NO when there is none", "rose", -2, x -> x.word(9));
    keeps("12: NO when there is none", "rose", -2, x -> x.word(-1));
    keeps("13: BAD when there is none", "rose", -1, x -> x.at(12));
    keeps("14: BAD when there is none such", "rose", -1, x -> x.place(1, 0, 0));
    keeps("15: How many texts there are", "rose", 3, x -> x.texts());
    empties("5: how many of them are new", "the", 0, x -> x.stop(0));
    empties("5: how many of them are new", "-", 0, x -> x.stop(0));
    empties("6: NO when there is no word", "-", -2, x -> x.ending(0));
    empties("6: NO when there is more than two", "e s t", -2, x -> x.ending(0));
    empties("6: FULL when there are 8 in the language", "e", -3, x -> x.ending(1));
    empties("6: FULL when there are 8 in the language", "e s", -3, x -> x.ending(1));
    empties("7: NO when there is no word", "-", -2, x -> x.stem(0));
    empties("8: With a fault what was answered before stays", "rose |", -16, x -> x.ask(0, -1));
    empties("8: With a fault what was answered before stays", "", -10, x -> x.ask(1, 2));
    empties("8: With a fault what was answered before stays", "red -*", -15, x -> x.ask(0, -1));
    Check.finish();
  }

  private static void keeps(String sentence, String tape, int due, ToIntFunction<TextIndices> call) {
    Check.sentence(sentence);
    Check asked = prepared().type(tape);
    Check other = prepared().type(tape);
    Check.due("the call", call.applyAsInt(asked.x), due);
    same(asked, other);
  }

  private static void empties(String sentence, String tape, int due, ToIntFunction<TextIndices> call) {
    Check.sentence(sentence);
    Check asked = prepared().type(tape);
    Check.due("the call", call.applyAsInt(asked.x), due);
    same(asked, prepared());
  }

  /** With texts, one that went, stop words, rules, answers, words that are alike, and one that was told. */
  private static Check prepared() {
    Check c = new Check();
    c.text("the red roses", 0, 0, 0);
    c.text("a rose", 0, 1, 1);
    c.text("Rose, rosy nose", 0, 3, 2);
    c.text("rose", 1, 0, 3);
    c.x.remove(1);
    c.stop("the e", 0, 2);
    c.ending("s", 0, 1);
    for (int i = 1; i <= 8; i++) {
      c.ending("y" + i, 1, i);
    }
    c.ask("rose", 0, -1, 0, 2);
    c.like("rose", 0, 2, "rose", "nose", "roses", "rosy");
    c.x.word(2);
    return c;
  }

  private static void same(Check asked, Check other) {
    String one = toldBy(asked);
    String two = toldBy(other);
    if (!one.equals(two)) {
      System.out.println("one that was asked: " + one + "\none that was not:   " + two);
    }
    Check.due("all else is the same", one.equals(two) ? 1 : 0, 1);
  }

  /** All that an object tells; last the tape, which is typed to and is a text then. */
  private static String toldBy(Check c) {
    TextIndices x = c.x;
    StringBuilder told = new StringBuilder("at");
    for (int i = -1; i < 13; i++) {
      told.append(' ').append(x.at(i));
    }
    told.append(", answers");
    for (int i = -1; i < 6; i++) {
      told.append(' ').append(x.answer(i)).append(' ').append(x.score(i));
    }
    told.append(", words");
    for (int i = -1; i < 6; i++) {
      told.append(' ').append(x.word(i)).append(' ').append(x.at(0)).append(' ').append(x.at(1));
    }
    told.append(", texts ").append(x.texts());
    for (int language = 0; language < 3; language++) {
      told.append(", stems ").append(x.stems(language));
    }
    told.append(", tape ").append(x.type(' ', 1)).append(" text ").append(x.text(2, 3)).append(" places");
    for (int text = 0; text < 6; text++) {
      for (int place = 0; place < 3; place++) {
        told.append(' ').append(x.place(text, place, 0)).append(' ').append(x.place(text, place, 1));
      }
    }
    told.append(", stems ").append(x.stems(2)).append(", stop words");
    for (int language = 0; language < 3; language++) {
      told.append(' ').append(c.type("the e rose s").x.stop(language));
      told.append(", endings ").append(c.type("walls").x.stem(language)).append(' ');
      told.append(c.type("walle").x.stem(language)).append(' ').append(c.type("q").x.ending(language));
    }
    return told.toString();
  }
}
