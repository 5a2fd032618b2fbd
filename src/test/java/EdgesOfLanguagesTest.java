/** The boundary cases of promises 5, 6, 7 and 16: stop words, endings, stems. */
public final class EdgesOfLanguagesTest {
  private static final String FULL_TAPE = "a b c d e f g h i j k l m n o p q r s t u v w x y z 0 1 2 3 4 5 6 7 8 9 "
      + "a b c d e f g h i j k l ";

  public static void main(String[] args) {
    stopsOfNoWord();
    stopsThatAreNew();
    stopsOfTwelveBytes();
    manyStops();
    wrongLanguagesOfStops();
    stopEmptiesTheTape();
    oneWordOrTwo();
    noWordOrMore();
    eightRules();
    fullLeavesTheRules();
    wrongLanguagesOfEndings();
    endingEmptiesTheTape();
    longEndings();
    threeBytesBefore();
    firstRuleThatFits();
    twelveBytesOfAStem();
    nothingInItsStead();
    rulesAreNotUsedTwice();
    stemOfTheFirstWord();
    stemOfNoWord();
    wrongLanguagesOfStems();
    stemEmptiesTheTape();
    countOfNothing();
    countOfDifferent();
    mostStems();
    countByTheRulesNow();
    wrongLanguagesOfCounts();
    Check.finish();
  }

  private static void stopsOfNoWord() {
    Check.sentence("5: The words of the tape are stop words: how many of them are new");
    Check c = new Check();
    for (int language = 0; language < 3; language++) {
      c.stop("", language, 0);
      c.stop(" -,", language, 0);
      c.text("a", language, 0, language);
      Check.due("stems", c.x.stems(language), 1);
    }
  }

  private static void stopsThatAreNew() {
    Check.sentence("5: how many of them are new");
    Check c = new Check();
    c.stop("a", 0, 1);
    c.stop("a", 0, 0);
    c.stop("A", 0, 0);
    c.stop("b a b B", 0, 1);
    c.stop("a", 1, 1);
    c.stop("a", 2, 1);
    c.stop("ab", 0, 1);
    c.stop("0a a0 00 0", 0, 4);
    c.stop(FULL_TAPE, 2, 35);
    c.stop(FULL_TAPE, 2, 0);
    c.stop(FULL_TAPE, 1, 35);
  }

  private static void stopsOfTwelveBytes() {
    Check.sentence("5: The words of the tape are stop words (of each the first 12 bytes)");
    Check c = new Check();
    c.stop("abcdefghijkl", 0, 1);
    c.stop("abcdefghijklm", 0, 0);
    c.stop("abcdefghijkm", 0, 1);
    c.stop("abcdefghijk", 0, 1);
    c.stop("z".repeat(96), 0, 1);
    c.stop("z".repeat(12), 0, 0);
    c.stop("z".repeat(11), 0, 1);
    c.text("abcdefghijklXYZ zzzzzzzzzzzzzzz zzzzzzzzzz", 0, 0, 0);
    Check.due("stems", c.x.stems(0), 1);
  }

  /** The document has no limit of stop words: as many as 512 calls can type, in words of two bytes. */
  private static void manyStops() {
    Check.sentence("5: The words of the tape are stop words");
    Check c = new Check();
    for (int i = 0; i < 38; i++) {
      StringBuilder tape = new StringBuilder();
      for (int j = 32 * i; j < 32 * i + 32; j++) {
        tape.append(digit(j / 36)).append(digit(j % 36)).append(',');
      }
      c.stop(tape.toString(), 0, 32);
    }
    // 38 * 13 calls are done; "71" was the last of those words.
    c.stop("00 71 72", 0, 1);
    c.text("aa 71 72 73", 0, 0, 0);
    Check.due("stems", c.x.stems(0), 1);
  }

  private static char digit(int i) {
    return (char) (i < 26 ? 'a' + i : '0' + i - 26);
  }

  private static void wrongLanguagesOfStops() {
    Check.sentence("5: BAD likewise");
    Check c = new Check();
    c.type("a b");
    for (int language : Check.outside(0, 2)) {
      Check.due("stop in " + language, c.x.stop(language), TextIndices.BAD);
    }
    c.tape(3);
    for (int language = 0; language < 3; language++) {
      c.stop("a b", language, 2);
    }
  }

  private static void stopEmptiesTheTape() {
    Check.sentence("5: The tape is empty then");
    Check c = new Check();
    c.stop("a b", 0, 2);
    c.tape(0);
    c.stop("", 0, 0);
    c.tape(0);
    c.stop("a b", 0, 0);
    c.tape(0);
  }

  private static void oneWordOrTwo() {
    Check.sentence("6: The tape's first word is an ending, its second one (nothing, if there is none) what comes in its stead");
    Check c = new Check();
    c.ending("s", 0, 1);
    c.stem("walls", 0, "wall");
    c.ending("ed ing", 0, 2);
    c.stem("walled", 0, "walling");
    c.ending("-LY;..Er-", 0, 3);
    c.stem("wallly", 0, "waller");
    c.ending("x x", 0, 4);
    c.stem("wallx", 0, "wallx");
    c.ending("s", 1, 1);
    c.ending("s", 2, 1);
  }

  private static void noWordOrMore() {
    Check.sentence("6: NO when there is no word or more than two");
    Check c = new Check();
    String[] tapes = {"", " ", "-|;", "s es ed", "s s s", FULL_TAPE};
    for (int language = 0; language < 3; language++) {
      for (String tape : tapes) {
        c.ending(tape, language, TextIndices.NO);
      }
      c.stem("walls", language, "walls");
      c.ending("d t", language, 1);
      c.ending("", language, TextIndices.NO);
      c.ending("s t r", language, TextIndices.NO);
      c.stem("walls", language, "walls");
      c.ending("t", language, 2);
    }
  }

  private static void eightRules() {
    Check.sentence("6: how many there are; FULL when there are 8 in the language");
    Check c = new Check();
    for (int language = 0; language < 3; language++) {
      for (int i = 1; i <= 8; i++) {
        // Alike or not, each is a rule behind the others.
        c.ending(i % 2 == 0 ? "s" : "q" + i, language, i);
      }
      c.ending("ed", language, TextIndices.FULL);
      c.ending("s", language, TextIndices.FULL);
      c.ending("a b", language, TextIndices.FULL);
    }
  }

  private static void fullLeavesTheRules() {
    Check.sentence("6: FULL when there are 8 in the language");
    Check c = new Check();
    for (int i = 1; i <= 7; i++) {
      c.ending("q" + i, 0, i);
    }
    c.ending("s t", 0, 8);
    c.ending("ed", 0, TextIndices.FULL);
    c.stem("walled", 0, "walled");
    c.stem("walls", 0, "wallt");
    c.stem("wallq1", 0, "wall");
    c.text("walled walls wallt", 0, 0, 0);
    Check.due("stems", c.x.stems(0), 2);
    c.ending("ed", 1, 1);
    c.stem("walled", 1, "wall");
    c.ending("", 0, TextIndices.NO);
    c.ending("a b c", 0, TextIndices.NO);
  }

  private static void wrongLanguagesOfEndings() {
    Check.sentence("6: BAD likewise");
    Check c = new Check();
    for (String tape : new String[] {"", "a b c", "s"}) {
      c.type(tape);
      for (int language : Check.outside(0, 2)) {
        Check.due("ending in " + language, c.x.ending(language), TextIndices.BAD);
      }
      c.tape(tape.length());
      c.stop("", 1, tape.isEmpty() ? 0 : tape.length() == 5 ? 3 : 1);
    }
    for (int language = 0; language < 3; language++) {
      c.stem("walls", language, "walls");
      c.ending("s", language, 1);
    }
  }

  private static void endingEmptiesTheTape() {
    Check.sentence("6: The tape is empty then");
    Check c = new Check();
    for (int i = 1; i <= 8; i++) {
      c.ending("s t", 0, i);
      c.tape(0);
    }
    c.ending("s t", 0, TextIndices.FULL);
    c.tape(0);
    c.ending("", 0, TextIndices.NO);
    c.tape(0);
    c.ending("a b c", 0, TextIndices.NO);
    c.tape(0);
    c.ending(" -", 0, TextIndices.NO);
    c.tape(0);
  }

  private static void longEndings() {
    Check.sentence("Terms: WORDS .. of each the first 12 bytes (of endings too)");
    Check c = new Check();
    c.ending("bcdefghijXXXXXXX", 0, 1);
    c.stem("abcdefghij", 0, "abcdefghij");
    c.ending("s bcdefghijklmnop", 1, 1);
    c.stem("xyzs", 1, "xyzbcdefghij");
    c.ending("s bcdefghijkl", 2, 1);
    c.stem("xyzs", 2, "xyzbcdefghij");
    Check d = new Check();
    d.ending("defghijkl", 0, 1);
    d.stem("abcdefghijklmnop", 0, "abc");
    d.ending("defghijklm", 1, 1);
    d.stem("abcdefghijklm", 1, "abcdefghijkl");
  }

  private static void threeBytesBefore() {
    Check.sentence("Terms: by the first rule whose ending is the word's, with three bytes at least before it");
    Check c = new Check();
    c.ending("s x", 0, 1);
    c.stem("s", 0, "s");
    c.stem("as", 0, "as");
    c.stem("abs", 0, "abs");
    c.stem("abcs", 0, "abcx");
    c.stem("abcds", 0, "abcdx");
    c.stem("ssss", 0, "sssx");
    c.ending("cdefghijkl x", 1, 1);
    c.stem("abcdefghijkl", 1, "abcdefghijkl");
    c.ending("defghijkl x", 1, 2);
    c.stem("abcdefghijkl", 1, "abcx");
    c.stem("bcdefghijkl", 1, "bcdefghijkl");
    c.stem("efghijkl", 1, "efghijkl");
    c.ending("ing", 2, 1);
    c.stem("ing", 2, "ing");
    c.stem("ng", 2, "ng");
    c.stem("king", 2, "king");
    c.stem("going", 2, "going");
    c.stem("coming", 2, "com");
    c.stem("coping", 2, "cop");
    c.stem("com1ng", 2, "com1ng");
  }

  private static void firstRuleThatFits() {
    Check.sentence("Terms: by the first rule whose ending is the word's, with three bytes at least before it");
    Check c = new Check();
    c.ending("s a", 0, 1);
    c.ending("es b", 0, 2);
    c.ending("s c", 0, 3);
    c.stem("boxes", 0, "boxea");
    c.ending("ses b", 1, 1);
    c.ending("es c", 1, 2);
    c.ending("s d", 1, 3);
    c.stem("glasses", 1, "glasb");
    c.stem("roses", 1, "rosc");
    c.stem("uses", 1, "used");
    c.stem("as", 1, "as");
    c.stem("walls", 1, "walld");
    for (int i = 1; i <= 7; i++) {
      c.ending("q" + i, 2, i);
    }
    c.ending("s e", 2, 8);
    c.stem("boxes", 2, "boxee");
  }

  private static void twelveBytesOfAStem() {
    Check.sentence("Terms: that word with the new ending, 12 bytes of it at most");
    Check c = new Check();
    c.ending("s 123456789", 0, 1);
    c.stem("abcs", 0, "abc123456789");
    c.stem("abcds", 0, "abcd12345678");
    c.stem("abs", 0, "abs");
    c.stem("abcdefghijks", 0, "abcdefghijk1");
    c.stem("abcdefghijs", 0, "abcdefghij12");
    c.ending("s 12345678", 1, 1);
    c.stem("abcs", 1, "abc12345678");
    c.ending("t 123456789012", 1, 2);
    c.stem("abct", 1, "abc123456789");
    c.ending("s ss", 2, 1);
    c.stem("abcdefghijks", 2, "abcdefghijks");
    c.stem("abcdefghijs", 2, "abcdefghijss");
    c.text("abcdefghijks abcdefghijs abcdefghijss", 2, 0, 0);
    Check.due("stems", c.x.stems(2), 2);
  }

  private static void nothingInItsStead() {
    Check.sentence("Terms: that word with the new ending; itself when there is none");
    Check c = new Check();
    c.stem("abcs", 0, "abcs");
    c.ending("s", 0, 1);
    c.stem("abcs", 0, "abc");
    c.stem("abct", 0, "abct");
    c.stem("sabc", 0, "sabc");
    c.stem("abcsa", 0, "abcsa");
    c.stem("abcs", 1, "abcs");
    c.stem("a", 0, "a");
  }

  private static void rulesAreNotUsedTwice() {
    Check.sentence("Terms: Rules are not used twice");
    Check c = new Check();
    c.ending("s", 0, 1);
    c.ending("ing s", 0, 2);
    c.ending("ed ing", 0, 3);
    c.stem("abcss", 0, "abcs");
    c.stem("abcing", 0, "abcs");
    c.stem("abcings", 0, "abcing");
    c.stem("abced", 0, "abcing");
    c.text("abcss", 0, 0, 0);
    c.ask("abcss", 0, -1, 0);
    c.ask("abcs", 0, -1);
    c.ask("abcings | abcing", 0, -1, 0);
  }

  private static void stemOfTheFirstWord() {
    Check.sentence("7: The tape's first word's stem: its length");
    Check c = new Check();
    c.stem("a", 0, "a");
    c.stem("0", 2, "0");
    c.stem("-Z9,b", 1, "z9");
    c.stem("abcdefghijk", 0, "abcdefghijk");
    c.stem("abcdefghijkl", 0, "abcdefghijkl");
    c.stem("abcdefghijklm", 0, "abcdefghijkl");
    c.stem("x".repeat(96), 0, "x".repeat(12));
    c.stem(" ".repeat(95) + "y", 0, "y");
    c.stem(FULL_TAPE, 0, "a");
    c.stop("the", 0, 1);
    c.stem("the", 0, "the");
    c.stop("walls", 0, 1);
    c.ending("s", 0, 1);
    c.stem("walls", 0, "wall");
  }

  private static void stemOfNoWord() {
    Check.sentence("7: NO when there is no word");
    Check c = new Check();
    for (int language = 0; language < 3; language++) {
      for (String tape : new String[] {"", " ", "-*|\"", "\0\u00ff", " ".repeat(96)}) {
        Check.due("stem of " + tape, c.type(tape).x.stem(language), TextIndices.NO);
        Check.due("at", c.x.at(0), TextIndices.BAD);
      }
    }
    c.stem("ab", 0, "ab");
    Check.due("stem", c.type(" ").x.stem(0), TextIndices.NO);
    c.told("ab");
  }

  private static void wrongLanguagesOfStems() {
    Check.sentence("7: BAD likewise (the tape stays)");
    Check c = new Check();
    c.stem("ab", 0, "ab");
    c.type("cde");
    for (int language : Check.outside(0, 2)) {
      Check.due("stem in " + language, c.x.stem(language), TextIndices.BAD);
    }
    c.told("ab");
    c.tape(3);
    c.stem("", 2, "cde");
    for (int language : Check.outside(0, 2)) {
      Check.due("stem of nothing in " + language, c.x.stem(language), TextIndices.BAD);
    }
  }

  private static void stemEmptiesTheTape() {
    Check.sentence("7: The tape is empty then");
    Check c = new Check();
    c.stem("ab cd", 0, "ab");
    c.tape(0);
    Check.due("stem", c.x.stem(0), TextIndices.NO);
    c.tape(0);
  }

  private static void countOfNothing() {
    Check.sentence("16: How many different stems texts of a language have (none)");
    Check c = new Check();
    for (int language = 0; language < 3; language++) {
      Check.due("stems without texts", c.x.stems(language), 0);
      c.text("", language, 0, 2 * language);
      c.text(" -;", language, 3, 2 * language + 1);
      Check.due("stems of texts without words", c.x.stems(language), 0);
    }
    c.stop("the", 0, 1);
    c.text("the THE", 0, 0, 6);
    Check.due("stems of stop words", c.x.stems(0), 0);
    c.text("the", 1, 0, 7);
    Check.due("stems", c.x.stems(1), 1);
    Check.due("stems of another language", c.x.stems(2), 0);
    Check.due("remove", c.x.remove(7), 1);
    Check.due("stems of what went", c.x.stems(1), 0);
    c.type("a");
    Check.due("stems do not count the tape", c.x.stems(1), 0);
    c.tape(1);
  }

  private static void countOfDifferent() {
    Check.sentence("16: How many different stems texts of a language have");
    Check c = new Check();
    c.text("a A a ab", 0, 0, 0);
    Check.due("stems", c.x.stems(0), 2);
    c.text("b a", 0, 3, 1);
    Check.due("stems of all fields", c.x.stems(0), 3);
    c.text("a b", 1, 0, 2);
    Check.due("stems", c.x.stems(0), 3);
    Check.due("stems", c.x.stems(1), 2);
    Check.due("remove", c.x.remove(0), 1);
    Check.due("stems", c.x.stems(0), 2);
    c.text("abcdefghijklm abcdefghijkl abcdefghijklmn abcdefghijk", 2, 0, 3);
    Check.due("stems of 12 bytes", c.x.stems(2), 2);
  }

  private static void mostStems() {
    Check.sentence("16: How many different stems texts of a language have (of 400 words)");
    Check c = new Check();
    for (int i = 0; i < 13; i++) {
      StringBuilder tape = new StringBuilder();
      for (int j = 32 * i; j < Math.min(400, 32 * i + 32); j++) {
        tape.append(digit(j / 36)).append(digit(j % 36)).append(',');
      }
      c.text(tape.toString(), 1, i % 4, i);
    }
    Check.due("stems", c.x.stems(1), 400);
    Check.due("stems", c.x.stems(0), 0);
    c.text("a", 1, 0, TextIndices.FULL);
    c.stop("aa lc ld", 1, 3);
    Check.due("stems", c.x.stems(1), 397);
    c.ask("ld | ld*", 1, -1);
    c.ask("lb", 1, -1, 12);
  }

  private static void countByTheRulesNow() {
    Check.sentence("Terms: It HAS a stem .. by the rules as they are now");
    Check c = new Check();
    c.text("walls wall walled", 0, 0, 0);
    c.text("walls wall walled", 1, 0, 1);
    Check.due("stems", c.x.stems(0), 3);
    c.ending("s", 0, 1);
    Check.due("stems", c.x.stems(0), 2);
    c.ask("walls", 0, -1, 0);
    c.scores(2 * 5342931457063200L);
    c.ending("ed", 0, 2);
    Check.due("stems", c.x.stems(0), 1);
    c.stop("walls", 0, 1);
    Check.due("stems", c.x.stems(0), 1);
    c.ask("wall", 0, -1, 0);
    c.scores(2 * 5342931457063200L);
    c.stop("wall walled", 0, 2);
    Check.due("stems", c.x.stems(0), 0);
    Check.due("stems of another language", c.x.stems(1), 3);
  }

  private static void wrongLanguagesOfCounts() {
    Check.sentence("16: BAD: no such language");
    Check c = new Check();
    c.text("a b", 0, 0, 0);
    c.text("a b", 2, 0, 1);
    for (int language : Check.outside(0, 2)) {
      Check.due("stems of " + language, c.x.stems(language), TextIndices.BAD);
    }
    Check.due("stems", c.x.stems(2), 2);
  }
}
