/** Promise 8: how a question is written, and where it can't go on. */
public final class QuestionFormTest {
  public static void main(String[] args) {
    Check c = new Check();
    c.text("a b c", 0, 0, 0);
    wanted(c);
    refused(c);
    longWords(c);
    written(c);
    faultsKeepAnswers(c);
    Check.finish();
  }

  /** More is wanted: the fault is at the length. */
  private static void wanted(Check c) {
    String[] tapes = {"", " ", "   ", "-", "a -", "a|", "a | ", "a | -", "\"", "\" ", "\"a", "\"a b", "\"a ", "-\"",
      "a \"b\" -", "a|-b|", "a".repeat(12) + "|", "a ".repeat(47) + " |"};
    for (String tape : tapes) {
      c.fault(tape, tape.length());
    }
  }

  private static void refused(Check c) {
    c.fault("|", 0);
    c.fault(" |", 1);
    c.fault("*", 0);
    c.fault("-*", 1);
    c.fault("- a", 1);
    c.fault("--a", 1);
    c.fault("-|a", 1);
    c.fault("a||b", 2);
    c.fault("a | | b", 4);
    c.fault("a|*", 2);
    c.fault("a *", 2);
    c.fault("a**", 2);
    c.fault("a &", 2);
    c.fault("a,b", 1);
    c.fault("\u00e4", 0);
    c.fault("a\0", 1);
    c.fault("a\tb", 1);
    c.fault("\"\"", 1);
    c.fault("\" \"", 2);
    c.fault("\"*\"", 1);
    c.fault("\"a*\"", 2);
    c.fault("\"-a\"", 1);
    c.fault("\"a-b\"", 2);
    c.fault("\"a|b\"", 2);
    c.fault("\"a\" *", 4);
    c.fault("\"a\"*", 3);
    c.fault("\"a\"\"", 4);
    c.fault("- \"a\"", 1);
    c.fault("a b c |", 7);
    c.fault("a b c !| ", 6);
  }

  private static void longWords(Check c) {
    String twelve = "abcdefghijkl";
    c.ask(twelve, 0, -1);
    c.ask("-" + twelve, 0, -1, 0);
    c.ask(twelve + "*", 0, -1);
    c.ask("\"" + twelve + "\"", 0, -1);
    c.ask(twelve + "|a", 0, -1, 0);
    c.fault(twelve + "m", 12);
    c.fault(twelve + "mnopq ", 12);
    c.fault("a -" + twelve + "M*", 15);
    c.fault("\"a " + twelve + "9\"", 15);
    c.fault("1234567890123", 12);
    c.fault("a".repeat(96), 12);
  }

  private static void written(Check c) {
    c.ask("a", 0, -1, 0);
    c.ask("  A  ", 0, -1, 0);
    c.ask("a b", 0, -1, 0);
    c.ask("a-x", 0, -1, 0);
    c.ask("a-b", 0, -1);
    c.ask("a*b", 0, -1, 0);
    c.ask("a*b*-x*", 0, -1, 0);
    c.ask("a*x", 0, -1);
    c.ask("a\"b\"c", 0, -1, 0);
    c.ask("\"a\"\"b\"", 0, -1, 0);
    c.ask("\"a\"-x", 0, -1, 0);
    c.ask("\"  a   b \"", 0, -1, 0);
    c.ask("-\" b a \"", 0, -1, 0);
    c.ask("-\"b c\"", 0, -1);
    c.ask("x|a", 0, -1, 0);
    c.ask("x|-x", 0, -1, 0);
    c.ask("x | y | z", 0, -1);
    c.ask("x | y | z|c", 0, -1, 0);
    c.ask("a|x|y", 0, -1, 0);
    c.ask("a*".repeat(48), 0, -1, 0);
    c.ask("a ".repeat(47) + "b", 0, -1, 0);
    c.ask("a-".repeat(47) + "b", 0, -1);
    c.ask("\"" + "a ".repeat(47) + "\"", 0, -1);
    c.ask("x|".repeat(47) + "a", 0, -1, 0);
    c.ask("x|".repeat(47) + "y", 0, -1);
  }

  private static void faultsKeepAnswers(Check c) {
    c.ask("b", 0, -1, 0);
    c.fault("x |", 3);
    Check.due("answer before the fault", c.x.answer(0), 0);
    c.scores(5342931457063200L);
    Check.due("ask in no language", c.type("x").x.ask(3, 0), TextIndices.BAD);
    Check.due("ask in no field", c.x.ask(0, 4), TextIndices.BAD);
    Check.due("answer before a wrong call", c.x.answer(0), 0);
    c.ask("", 0, -1);
    Check.due("score where nothing answers", c.x.score(0), 0);
  }
}
