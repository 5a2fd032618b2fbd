/** Promise 2, and which calls leave the tape as it is. */
public final class TapeTest {
  public static void main(String[] args) {
    orderOfBytes();
    wrongNumbers();
    full();
    badCallsKeepTheTape();
    otherCallsEmptyTheTape();
    Check.finish();
  }

  private static void orderOfBytes() {
    Check c = new Check();
    // 8 bytes, the highest first; then the lowest 2 of more than that.
    Check.due("type 8", c.x.type(0x6162636465666768L, 8), 8);
    Check.due("type 2", c.x.type(0x7a7a7a7a7a7a696aL, 2), 10);
    Check.due("stem", c.x.stem(0), 10);
    c.told("abcdefghij");
    Check.due("type of bytes above 127", c.x.type(-1L, 8), 8);
    Check.due("type", c.x.type(0xff61L, 2), 10);
    c.text("", 0, 0, 0);
    Check.due("place", c.x.place(0, 0, 0), 9);
    Check.due("type of zero bytes", c.x.type(0L, 3), 3);
    Check.due("type", c.x.type('b', 1), 4);
    Check.due("stem behind zero bytes", c.x.stem(0), 1);
    c.told("b");
  }

  private static void wrongNumbers() {
    Check c = new Check();
    c.type("abc");
    int[] wrong = {0, 9, -1, 64, Integer.MIN_VALUE, Integer.MAX_VALUE};
    for (int n : wrong) {
      Check.due("type with n = " + n, c.x.type(0x61L, n), TextIndices.BAD);
    }
    c.tape(3);
    for (int n = 1; n <= 8; n++) {
      TextIndices x = new TextIndices();
      Check.due("type with n = " + n, x.type(0x61L, n), n);
    }
  }

  private static void full() {
    Check c = new Check();
    for (int i = 1; i <= 11; i++) {
      Check.due("type", c.x.type(0x2020202020202020L, 8), 8 * i);
    }
    Check.due("type to 93", c.x.type(0x2020202061L, 5), 93);
    Check.due("type to 97", c.x.type(0x62626262L, 4), TextIndices.FULL);
    Check.due("type to 101", c.x.type(0x62L, 8), TextIndices.FULL);
    Check.due("BAD goes first", c.x.type(0x62L, 9), TextIndices.BAD);
    Check.due("type to 96", c.x.type(0x636363L, 3), 96);
    Check.due("type to 97", c.x.type(0x62L, 1), TextIndices.FULL);
    Check.due("stem", c.x.stem(0), 4);
    c.told("accc");
    Check.due("type", c.x.type(0x62L, 1), 1);
  }

  private static void badCallsKeepTheTape() {
    Check c = new Check();
    c.type("ab");
    int[] wrong = {-1, 3, Integer.MIN_VALUE, Integer.MAX_VALUE};
    for (int language : wrong) {
      Check.due("text", c.x.text(language, 0), TextIndices.BAD);
      Check.due("stop", c.x.stop(language), TextIndices.BAD);
      Check.due("ending", c.x.ending(language), TextIndices.BAD);
      Check.due("stem", c.x.stem(language), TextIndices.BAD);
      Check.due("ask", c.x.ask(language, 0), TextIndices.BAD);
      Check.due("like", c.x.like(language, 0), TextIndices.BAD);
      Check.due("stems", c.x.stems(language), TextIndices.BAD);
    }
    int[] wrongFields = {4, -2, Integer.MIN_VALUE, Integer.MAX_VALUE};
    for (int field : wrongFields) {
      Check.due("text of field " + field, c.x.text(0, field), TextIndices.BAD);
      Check.due("ask of field " + field, c.x.ask(0, field), TextIndices.BAD);
      Check.due("like by " + field, c.x.like(0, field), TextIndices.BAD);
    }
    Check.due("text of field -1", c.x.text(0, -1), TextIndices.BAD);
    Check.due("like by -1", c.x.like(0, -1), TextIndices.BAD);
    Check.due("texts", c.x.texts(), 0);
    c.tape(2);
  }

  private static void otherCallsEmptyTheTape() {
    Check c = new Check();
    c.text("a", 2, 3, 0);
    c.tape(0);
    Check.due("stop", c.x.stop(0), 0);
    c.tape(0);
    Check.due("ending without a word", c.x.ending(0), TextIndices.NO);
    c.tape(0);
    c.ending("a b c", 0, TextIndices.NO);
    c.tape(0);
    c.ending("a b", 0, 1);
    c.tape(0);
    Check.due("stem without a word", c.x.stem(0), TextIndices.NO);
    c.tape(0);
    c.stem("a b", 0, "a");
    c.tape(0);
    Check.due("ask with a fault", c.x.ask(0, 0), -11);
    c.tape(0);
    c.ask("a", 0, 0);
    c.tape(0);
    Check.due("like without a word", c.x.like(0, 0), TextIndices.NO);
    c.tape(0);
    c.like("a", 0, 0);
    c.tape(0);
    callsThatLeaveTheTape(c);
  }

  private static void callsThatLeaveTheTape(Check c) {
    c.x.remove(0);
    c.x.answer(0);
    c.x.score(0);
    c.x.word(0);
    c.x.at(0);
    c.x.place(0, 0, 0);
    c.x.texts();
    c.x.stems(0);
    c.tape(1);
  }
}
