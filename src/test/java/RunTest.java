/** What it is: an object is used for at most 512 calls, and up to the last one it answers as it has to. */
public final class RunTest {
  private static final int CALLS = 512;
  private static final long WHOLE = 5342931457063200L;
  private final TextIndices x = new TextIndices();
  private int calls = 0;

  public static void main(String[] args) {
    Check.sentence("An object is used for at most 512 calls after it has been made");
    for (int kind = 0; kind < 6; kind++) {
      new RunTest().play(kind);
    }
    Check.finish();
  }

  private void due(String call, long got, long want) {
    calls++;
    Check.due("call " + calls + ", " + call, got, want);
  }

  private void typeFull(long eight) {
    for (int i = 1; i <= 12; i++) {
      due("type", x.type(eight, 8), 8 * i);
    }
  }

  private void play(int kind) {
    due("type", x.type(0x726f7365L, 4), 4);
    due("text", x.text(0, 0), 0);
    for (int round = 0; calls + 20 <= CALLS; round++) {
      switch (kind) {
        case 0 -> longestQuestion();
        case 1 -> longestFault();
        case 2 -> longestStops(round);
        case 3 -> longestLike();
        case 4 -> longestText(round);
        default -> emptyCalls();
      }
    }
    while (calls < CALLS - 4) {
      due("texts", x.texts(), kind == 4 ? 9 : 1);
    }
    due("type", x.type(0x726f7365L, 4), 4);
    due("ask", x.ask(0, 0), 1);
    due("answer", x.answer(0), 0);
    due("score", x.score(0), WHOLE);
    Check.due("calls", calls, CALLS);
  }

  /** 48 parts. */
  private void longestQuestion() {
    typeFull(0x722a722a722a722aL);
    due("ask", x.ask(0, -1), 1);
    due("score", x.score(0), 0);
  }

  private void longestFault() {
    typeFull(0x617c617c617c617cL);
    due("ask", x.ask(0, -1), -106);
  }

  private void longestStops(int round) {
    typeFull(0x6120622063206420L);
    due("stop", x.stop(round % 3), round < 3 ? 4 : 0);
  }

  private void longestLike() {
    typeFull(0x6161616161616161L);
    due("like", x.like(0, 3), 0);
    typeRose();
    due("like", x.like(0, 3), 1);
    due("word", x.word(0), 4);
  }

  private void longestText(int round) {
    typeFull(0x6120622063206420L);
    due("text", x.text(1, 3), round < 8 ? round + 1 : TextIndices.FULL);
  }

  private void typeRose() {
    due("type", x.type(0x726f7365L, 4), 4);
  }

  private void emptyCalls() {
    due("ask", x.ask(0, -1), -10);
    due("like", x.like(0, 0), TextIndices.NO);
    due("stem", x.stem(0), TextIndices.NO);
    due("stop", x.stop(0), 0);
    due("ending", x.ending(0), TextIndices.NO);
  }
}
