/** The boundary cases of promise 8, and of how the Terms say a question is written. */
public final class EdgesOfQuestionsTest {
  private static final String TWELVE = "abcdefghijkl";
  private static final String LETTERS = "abcdefghijklmnopqrstuvwxyzABCDEFGHIJKLMNOPQRSTUVWXYZ0123456789";

  public static void main(String[] args) {
    withoutWords();
    withoutTexts();
    bytesWhereAPartIsWanted();
    bytesBehindMinus();
    bytesInAWord();
    bytesBehindTwelve();
    bytesBetweenParts();
    bytesInAPhrase();
    rowsOfOnePart();
    blanksBetweenParts();
    blanksInParts();
    onlyByte32IsABlank();
    thirteenthByte();
    placesUpToTheTapesEnd();
    wrongLanguages();
    wrongFields();
    languagesAndFields();
    askEmptiesTheTape();
    faultsKeepWhatWasAnswered();
    refusedCallsKeepWhatWasAnswered();
    Check.finish();
  }

  private static void withoutWords() {
    Check.sentence("8: -10 less the place of the first byte that can't stand there (its length, when more is wanted)");
    Check c = new Check();
    String[] wanted = {"", " ", "        ", " ".repeat(96), "-", " -", "\"", "-\"", "\"  ", "  -\"  "};
    for (String tape : wanted) {
      c.fault(tape, tape.length());
    }
    String[] wrong = {"|", "*", ".", "- ", "--", "-*", "-|", "\"\"", "\"*", "\"-", "\"|"};
    for (String tape : wrong) {
      c.fault(tape, tape.length() - 1);
      c.fault(tape + " \"|", tape.length() - 1);
    }
  }

  private static void withoutTexts() {
    Check.sentence("8: how many texts answer it");
    Check c = new Check();
    for (int language = 0; language < 3; language++) {
      for (int field = -1; field <= 3; field++) {
        for (String tape : new String[] {"a", "-a", "a*", "\"a b\"", "-a|-b", "-\"a\""}) {
          c.ask(tape, language, field);
        }
      }
    }
    Check d = new Check();
    d.fault("a|", 2);
    d.fault("", 0);
    d.text("", 0, 0, 0);
    d.ask("a", 0, -1);
    d.ask("a*", 0, -1);
    d.ask("\"a\"", 0, -1);
    d.ask("-a", 0, -1, 0);
    d.ask("-a -b* -\"c d\"", 0, -1, 0);
  }

  /** Each byte behind a beginning: complete with it, or more is wanted, or it can't stand there. */
  private static void bytesBehind(String beginning, String complete, String wanted) {
    for (int b = 0; b < 256; b++) {
      String tape = beginning + (char) b;
      long due = -10 - beginning.length();
      if (complete.indexOf(b) >= 0) {
        due = 0;
      } else if (wanted.indexOf(b) >= 0) {
        due = -10 - tape.length();
      }
      Check.due("ask of " + beginning + " and byte " + b, new Check().type(tape).x.ask(1, 2), due);
    }
  }

  private static void bytesWhereAPartIsWanted() {
    Check.sentence("Terms: It is written: rows, | between them; a row is one part at least");
    for (String beginning : new String[] {"", " ", "a|", "a | ", "\"a\"|", "a*|  ", "-a|", "a|b|"}) {
      bytesBehind(beginning, LETTERS, " -\"");
    }
  }

  private static void bytesBehindMinus() {
    Check.sentence("Terms: a part is perhaps -, and then a word, or a word and *, or \" words \"");
    for (String beginning : new String[] {"-", " -", "a -", "a-", "a|-", "\"a\"-", "a*-"}) {
      bytesBehind(beginning, LETTERS, "\"");
    }
  }

  private static void bytesInAWord() {
    Check.sentence("Terms: a word, or a word and *");
    for (String beginning : new String[] {"a", "Z", "0", "-a", "a b", "a|b", "abcdefghijk", "a*b", "\"a\"b"}) {
      bytesBehind(beginning, LETTERS + " *", "|-\"");
    }
  }

  private static void bytesBehindTwelve() {
    Check.sentence("Terms: more than 12: a fault at the thirteenth");
    for (String beginning : new String[] {TWELVE, "-" + TWELVE, "a " + TWELVE, "a*" + TWELVE, "a|" + TWELVE}) {
      bytesBehind(beginning, " *", "|-\"");
    }
    bytesBehind("\"" + TWELVE, "\"", " ");
    bytesBehind("\"a " + TWELVE, "\"", " ");
    bytesBehind(TWELVE + " ", LETTERS + " ", "|-\"");
  }

  private static void bytesBetweenParts() {
    Check.sentence("Terms: parts are apart by blanks");
    for (String beginning : new String[] {"a ", "a*", "a* ", "\"a\"", "\"a\" ", "-a* ", "-\"a b\"", "a| b "}) {
      bytesBehind(beginning, LETTERS + " ", "|-\"");
    }
  }

  private static void bytesInAPhrase() {
    Check.sentence("Terms: \" words \" (a PHRASE, one at least, apart by blanks alone)");
    for (String beginning : new String[] {"\"", "\" ", "-\"", "-\"  ", "a\"", "\"a\"\""}) {
      bytesBehind(beginning, "", LETTERS + " ");
    }
    for (String beginning : new String[] {"\"a", "\"a ", "\"a b", "\" a  ", "-\"a", "a|\"abcdefghijk"}) {
      bytesBehind(beginning, "\"", LETTERS + " ");
    }
  }

  private static void rowsOfOnePart() {
    Check.sentence("Terms: a row is one part at least");
    Check c = new Check();
    c.text("a b", 0, 0, 0);
    c.fault("|a", 0);
    c.fault("a||b", 2);
    c.fault("a|  |b", 4);
    c.fault("a|b|", 4);
    c.fault("a|b|   ", 7);
    c.ask("x|a", 0, -1, 0);
    c.ask("a|x", 0, -1, 0);
    c.ask("x|y", 0, -1);
    c.ask("x|".repeat(47) + "y", 0, -1);
    c.ask("x|".repeat(47) + "b", 0, -1, 0);
    c.fault("x|".repeat(48), 96);
    c.ask("-x", 0, -1, 0);
    c.ask("x|-x", 0, -1, 0);
    c.ask("-a|-b", 0, -1);
  }

  private static void blanksBetweenParts() {
    Check.sentence("Terms: parts are apart by blanks (between bytes that would else be one word, at least one)");
    Check c = new Check();
    c.text("a b ab", 0, 0, 0);
    c.text("a b", 0, 0, 1);
    c.ask("ab", 0, -1, 0);
    c.ask("a b", 0, -1, 0, 1);
    c.ask("a     b", 0, -1, 0, 1);
    c.ask("a-ab", 0, -1, 1);
    c.ask("a -ab", 0, -1, 1);
    c.ask("a*b", 0, -1, 0, 1);
    c.ask("b\"b ab\"", 0, -1, 0);
    c.ask("\"b ab\"b", 0, -1, 0);
    c.ask("\"a b\"\"b ab\"", 0, -1, 0);
    c.ask("\"a b\"-ab", 0, -1, 1);
    c.ask("b-\"b ab\"", 0, -1, 1);
    c.ask("b*-ab", 0, -1, 1);
    c.ask("  a  |  ab  ", 0, -1, 0, 1);
    c.ask("a" + " ".repeat(94) + "b", 0, -1, 0, 1);
    c.ask("a ".repeat(48), 0, -1, 0, 1);
    c.ask("a-".repeat(47) + "ab", 0, -1);
    c.ask("a-".repeat(47) + "x ", 0, -1);
    c.ask("a*".repeat(48), 0, -1, 0, 1);
    c.ask("a\"b\"".repeat(24), 0, -1, 0, 1);
  }

  private static void blanksInParts() {
    Check.sentence("Terms: without blanks but between a PHRASE's words and its signs");
    Check c = new Check();
    c.text("a b", 0, 0, 0);
    c.fault("- a", 1);
    c.fault("a - b", 3);
    c.fault("- \"a\"", 1);
    c.fault("a *", 2);
    c.fault("a|b *", 4);
    c.ask("\"a b\"", 0, -1, 0);
    c.ask("\" a b\"", 0, -1, 0);
    c.ask("\"a b \"", 0, -1, 0);
    c.ask("\"   a   b   \"", 0, -1, 0);
    c.ask("-\" b a \"", 0, -1, 0);
    c.ask("\"" + " ".repeat(93) + "a\"", 0, -1, 0);
    c.ask("\"a" + " ".repeat(92) + "b\"", 0, -1, 0);
  }

  private static void onlyByte32IsABlank() {
    Check.sentence("Terms: a blank is byte 32");
    Check c = new Check();
    for (char b : new char[] {0, 9, 10, 11, 12, 13, 31, 33, 95, 127, 160, 255}) {
      c.fault(b + "a", 0);
      c.fault("a" + b + "b", 1);
      c.fault("\"a" + b + "b\"", 2);
      c.fault("a " + b, 2);
    }
  }

  private static void thirteenthByte() {
    Check.sentence("Terms: words are those of texts (by letters and digits, all of its bytes; more than 12: a fault at the thirteenth)");
    Check c = new Check();
    c.text(TWELVE + "mno 0123456789AB", 0, 0, 0);
    c.ask(TWELVE, 0, -1, 0);
    c.ask(TWELVE.toUpperCase(), 0, -1, 0);
    c.ask("0123456789ab", 0, -1, 0);
    c.ask("abcdefghijk", 0, -1);
    c.ask(TWELVE + "*", 0, -1, 0);
    c.ask("\"" + TWELVE + " 0123456789ab\"", 0, -1, 0);
    c.ask(TWELVE + " -0123456789ab", 0, -1);
    c.fault(TWELVE + "m", 12);
    c.fault(TWELVE + "mno", 12);
    c.fault(TWELVE + "m*", 12);
    c.fault("-" + TWELVE + "m", 13);
    c.fault("\"" + TWELVE + "m\"", 13);
    c.fault("\"a b " + TWELVE + "m\"", 17);
    c.fault("a|b " + TWELVE + "m,", 16);
    c.fault("0123456789012", 12);
    c.fault("z".repeat(96), 12);
  }

  private static void placesUpToTheTapesEnd() {
    Check.sentence("8: -10 less the place of the first byte that can't stand there (its length, when more is wanted)");
    Check c = new Check();
    c.text("a", 0, 0, 0);
    String most = "a ".repeat(47);
    c.ask(most + "a", 0, -1, 0);
    c.ask(most + "aa", 0, -1);
    c.ask(most + " a", 0, -1, 0);
    c.fault(most + "a|", 96);
    c.fault(most + "a-", 96);
    c.fault(most + "a\"", 96);
    c.fault(most + " -", 96);
    c.fault(most + "a,", 95);
    c.fault(most + "-*", 95);
    c.fault(most + " *", 95);
    c.fault(most + "*a", 94);
    c.fault("\"" + "a ".repeat(47) + "a", 96);
    c.ask("\"" + "a ".repeat(47) + "\"", 0, -1);
    c.fault("\0" + most, 0);
    c.fault("a,a,a", 1);
  }

  private static void wrongLanguages() {
    Check.sentence("8: BAD likewise (the tape stays)");
    Check c = new Check();
    c.text("a", 0, 0, 0);
    for (String tape : new String[] {"a", "|", ""}) {
      c.type(tape);
      for (int language : Check.outside(0, 2)) {
        Check.due("ask in " + language, c.x.ask(language, -1), TextIndices.BAD);
      }
      c.tape(tape.length());
      c.stop("", 2, tape.equals("a") ? 1 : 0);
    }
    c.type("a");
    Check.due("ask in 3", c.x.ask(3, 4), TextIndices.BAD);
    c.ask("", 0, -1, 0);
  }

  private static void wrongFields() {
    Check.sentence("8: of a field (-1: all); BAD likewise (the tape stays)");
    Check c = new Check();
    c.text("a", 0, 0, 0);
    for (String tape : new String[] {"a", "|", ""}) {
      c.type(tape);
      for (int field : Check.outside(-1, 3)) {
        Check.due("ask of " + field, c.x.ask(0, field), TextIndices.BAD);
      }
      c.tape(tape.length());
      c.stop("", 2, tape.equals("a") ? 1 : 0);
    }
  }

  private static void languagesAndFields() {
    Check.sentence("Terms: of texts of that language, in all fields or one");
    Check c = new Check();
    for (int i = 0; i < 12; i++) {
      c.text("a", i / 4, i % 4, i);
    }
    for (int i = 0; i < 12; i++) {
      c.ask("a", i / 4, i % 4, i);
      c.ask("-x", i / 4, i % 4, i);
    }
    c.ask("a", 0, -1, 0, 1, 2, 3);
    c.ask("a*", 1, -1, 4, 5, 6, 7);
    c.ask("-x", 2, -1, 8, 9, 10, 11);
  }

  private static void askEmptiesTheTape() {
    Check.sentence("8: The tape is empty then");
    Check c = new Check();
    c.text("a", 0, 0, 0);
    c.ask("a", 0, -1, 0);
    c.tape(0);
    c.ask("b ", 0, -1);
    c.tape(0);
    for (String tape : new String[] {"", "a|", "a,b", TWELVE + "m", "\"a", "|a"}) {
      Check.due("a fault", c.type(tape).x.ask(0, -1) <= -10 ? 1 : 0, 1);
      c.tape(0);
      Check.due("ask of a blank", c.x.ask(0, -1), -11);
    }
  }

  private static void faultsKeepWhatWasAnswered() {
    Check.sentence("8: With a fault what was answered before stays");
    Check c = new Check();
    c.fault("|", 0);
    Check.due("answer before any", c.x.answer(0), TextIndices.NO);
    c.text("a a", 0, 0, 0);
    c.text("a b", 1, 0, 1);
    c.text("a", 0, 3, 2);
    c.ask("a", 0, -1, 0, 2);
    for (String tape : new String[] {"", " ", "|", "b|", "b -", "b c,", "\"b", "\"\"", TWELVE + "m", "b *"}) {
      Check.due("a fault", c.type(tape).x.ask(1, 0) <= -10 ? 1 : 0, 1);
      Check.due("answer 0", c.x.answer(0), 0);
      Check.due("answer 1", c.x.answer(1), 2);
      Check.due("no answer 2", c.x.answer(2), TextIndices.NO);
      c.scores(2 * (5342931457063200L / 2), 5342931457063200L / 2);
    }
    c.ask("b", 0, -1);
    c.fault("a|", 2);
    Check.due("that there was none stays", c.x.answer(0), TextIndices.NO);
    c.ask("b", 1, -1, 1);
  }

  private static void refusedCallsKeepWhatWasAnswered() {
    Check.sentence("9: of the latest question without a fault");
    Check c = new Check();
    c.text("a", 0, 0, 0);
    c.ask("a", 0, -1, 0);
    c.type("b");
    Check.due("ask in 3", c.x.ask(3, 0), TextIndices.BAD);
    Check.due("ask in -1", c.x.ask(-1, 0), TextIndices.BAD);
    Check.due("ask of -2", c.x.ask(0, -2), TextIndices.BAD);
    Check.due("ask of 4", c.x.ask(0, 4), TextIndices.BAD);
    Check.due("answer", c.x.answer(0), 0);
    c.scores(5342931457063200L);
    c.ask("", 0, -1);
    Check.due("answer", c.x.answer(0), TextIndices.NO);
  }
}
