import java.util.Random;

/** No call throws or fails to end, whatever it is given, and also behind the 512th call. */
public final class BeyondTest {
  private static final int[] ODD = {Integer.MIN_VALUE, -11, -1, 0, 1, 2, 3, 4, 39, 40, 41, 96, 400, Integer.MAX_VALUE};

  public static void main(String[] args) {
    for (int seed = 0; seed < 20; seed++) {
      play(new Random(seed), new TextIndices());
    }
    manyStops(new TextIndices());
    Check.finish();
  }

  private static void play(Random random, TextIndices x) {
    for (int i = 0; i < 5000; i++) {
      long bytes = random.nextInt(3) == 0 ? random.nextLong() : 0x612062202d632a20L >>> random.nextInt(8);
      for (int j = random.nextInt(14); j > 0; j--) {
        x.type(bytes + j, random.nextInt(9));
      }
      int a = random.nextInt(3) == 0 ? random.nextInt(3) : ODD[random.nextInt(ODD.length)];
      int b = random.nextInt(3) == 0 ? random.nextInt(4) : ODD[random.nextInt(ODD.length)];
      call(x, random.nextInt(14), a, b, ODD[random.nextInt(ODD.length)]);
    }
  }

  private static void call(TextIndices x, int which, int a, int b, int c) {
    switch (which) {
      case 0 -> x.text(a, b);
      case 1 -> x.remove(a);
      case 2 -> x.stop(a);
      case 3 -> x.ending(a);
      case 4 -> x.stem(a);
      case 5 -> x.ask(a, b);
      case 6 -> x.answer(a);
      case 7 -> x.score(a);
      case 8 -> x.like(a, b);
      case 9 -> x.word(a);
      case 10 -> x.at(a);
      case 11 -> x.place(a, b, c);
      case 12 -> x.texts();
      default -> x.stems(a);
    }
  }

  private static void manyStops(TextIndices x) {
    for (int i = 0; i < 5000; i++) {
      x.type(0x6161616161L + (i % 17) + (i / 17 % 17 << 8) + ((long) (i / 289) << 16), 5);
      x.stop(0);
    }
    Check.due("texts", x.texts(), 0);
  }
}
