import java.util.ArrayList;
import java.util.Comparator;
import java.util.HashSet;
import java.util.LinkedHashSet;
import java.util.List;
import java.util.Set;
import java.util.TreeSet;

/** The document once more, slow and by strings, to hold the class against. */
final class Model {
  private record Text(int number, int language, int field, String tape) {}
  private record Part(boolean without, String written) {}
  private record Answer(int text, long score) {}

  private String tape = "";
  private int made = 0;
  private int madeWords = 0;
  private final List<Text> texts = new ArrayList<>();
  private final List<Set<String>> stops = List.of(new HashSet<>(), new HashSet<>(), new HashSet<>());
  private final List<List<List<String>>> rules = List.of(new ArrayList<>(), new ArrayList<>(), new ArrayList<>());
  private List<Answer> answers = new ArrayList<>();
  private List<String> likes = new ArrayList<>();
  private String told = "";

  int type(long bytes, int n) {
    if (n < 1 || n > 8) return -1;
    if (tape.length() + n > 96) return -3;
    StringBuilder more = new StringBuilder();
    for (int i = 0; i < n; i++) more.insert(0, (char) (bytes >> 8 * i & 0xff));
    tape += more;
    return tape.length();
  }

  int text(int language, int field) {
    if (noLanguage(language) || field < 0 || field > 3) return -1;
    Text text = new Text(made, language, field, taken());
    int words = words(text.tape).size();
    if (made == 40 || madeWords + words > 400) return -3;
    texts.add(text);
    madeWords += words;
    return made++;
  }

  int remove(int number) {
    return texts.removeIf(t -> t.number == number) ? 1 : -1;
  }

  int stop(int language) {
    if (noLanguage(language)) return -1;
    int before = stops.get(language).size();
    stops.get(language).addAll(words(taken()));
    return stops.get(language).size() - before;
  }

  int ending(int language) {
    if (noLanguage(language)) return -1;
    List<String> words = words(taken());
    if (words.isEmpty() || words.size() > 2) return -2;
    if (rules.get(language).size() == 8) return -3;
    rules.get(language).add(List.of(words.get(0), words.size() == 2 ? words.get(1) : ""));
    return rules.get(language).size();
  }

  int stem(int language) {
    if (noLanguage(language)) return -1;
    List<String> words = words(taken());
    return words.isEmpty() ? -2 : tell(stemOf(words.get(0), language));
  }

  int ask(int language, int field) {
    if (noLanguage(language) || field < -1 || field > 3) return -1;
    String question = taken();
    int fault = fault(question);
    if (fault >= 0) return -10 - fault;
    List<Text> scope = texts.stream()
        .filter(t -> t.language == language && (field == -1 || t.field == field)).toList();
    List<List<Part>> rows = rows(question);
    Set<String> scored = new LinkedHashSet<>();
    for (List<Part> row : rows) {
      for (Part part : row) {
        if (!part.without && part.written.matches("[a-z0-9]+") && !isStop(part.written, language)) {
          scored.add(stemOf(part.written, language));
        }
      }
    }
    answers = new ArrayList<>();
    for (Text text : scope) {
      boolean some = false;
      for (List<Part> row : rows) {
        some |= row.stream().allMatch(p -> answersPart(text, p.written) != p.without);
      }
      if (some) answers.add(new Answer(text.number, scoreOf(text, scope, scored)));
    }
    answers.sort(Comparator.comparingLong((Answer a) -> -a.score).thenComparingInt(a -> a.text));
    return answers.size();
  }

  int answer(int i) {
    return i < 0 || i >= answers.size() ? -2 : answers.get(i).text;
  }

  long score(int i) {
    return i < 0 || i >= answers.size() ? 0 : answers.get(i).score;
  }

  int like(int language, int changes) {
    if (noLanguage(language) || changes < 0 || changes > 3) return -1;
    List<String> words = words(taken());
    likes = new ArrayList<>();
    if (words.isEmpty()) return -2;
    Set<String> all = new TreeSet<>();
    for (Text text : texts) {
      if (text.language == language) all.addAll(words(text.tape));
    }
    all.removeIf(w -> isStop(w, language));
    for (int d = 0; d <= changes; d++) {
      for (String word : all) {
        if (!likes.contains(word) && becomes(word, words.get(0), d)) likes.add(word);
      }
    }
    return likes.size();
  }

  int word(int i) {
    return i < 0 || i >= likes.size() ? -2 : tell(likes.get(i));
  }

  int at(int i) {
    return i < 0 || i >= told.length() ? -1 : told.charAt(i);
  }

  int place(int number, int place, int part) {
    for (Text text : texts) {
      if (text.number == number) {
        int[] span = span(text.tape, place);
        return span == null || part < 0 || part > 1 ? -1 : span[part];
      }
    }
    return -1;
  }

  int texts() {
    return texts.size();
  }

  int stems(int language) {
    if (noLanguage(language)) return -1;
    Set<String> all = new HashSet<>();
    for (Text text : texts) {
      if (text.language == language) all.addAll(stemsOf(text));
    }
    all.remove(null);
    return all.size();
  }

  private static boolean noLanguage(int language) {
    return language < 0 || language > 2;
  }

  private String taken() {
    String was = tape;
    tape = "";
    return was;
  }

  private int tell(String word) {
    told = word;
    return word.length();
  }

  private static boolean inWord(char c) {
    return "abcdefghijklmnopqrstuvwxyzABCDEFGHIJKLMNOPQRSTUVWXYZ0123456789".indexOf(c) >= 0;
  }

  private static String lower(String text) {
    StringBuilder low = new StringBuilder();
    for (char c : text.toCharArray()) low.append(c >= 'A' && c <= 'Z' ? (char) (c + 32) : c);
    return low.toString();
  }

  private static List<String> words(String tape) {
    List<String> words = new ArrayList<>();
    for (String word : tape.split("[^A-Za-z0-9]+")) {
      if (!word.isEmpty()) words.add(lower(word.length() > 12 ? word.substring(0, 12) : word));
    }
    return words;
  }

  private static int[] span(String tape, int place) {
    int seen = -1;
    for (int i = 0; i < tape.length(); i++) {
      if (inWord(tape.charAt(i)) && (i == 0 || !inWord(tape.charAt(i - 1))) && ++seen == place) {
        int end = i;
        while (end < tape.length() && inWord(tape.charAt(end))) end++;
        return new int[] {i, end - i};
      }
    }
    return null;
  }

  private boolean isStop(String word, int language) {
    return stops.get(language).contains(word);
  }

  private String stemOf(String word, int language) {
    for (List<String> rule : rules.get(language)) {
      if (word.endsWith(rule.get(0)) && word.length() >= rule.get(0).length() + 3) {
        String stem = word.substring(0, word.length() - rule.get(0).length()) + rule.get(1);
        return stem.length() > 12 ? stem.substring(0, 12) : stem;
      }
    }
    return word;
  }

  /** By places; null for a stop word. */
  private List<String> stemsOf(Text text) {
    List<String> stems = new ArrayList<>();
    for (String word : words(text.tape)) {
      stems.add(isStop(word, text.language) ? null : stemOf(word, text.language));
    }
    return stems;
  }

  private boolean answersPart(Text text, String part) {
    List<String> stems = stemsOf(text);
    if (part.startsWith("\"")) {
      List<String> wanted = words(part);
      for (int from = 0; from + wanted.size() <= stems.size(); from++) {
        boolean all = true;
        for (int i = 0; i < wanted.size(); i++) {
          String w = wanted.get(i);
          all &= isStop(w, text.language) || stemOf(w, text.language).equals(stems.get(from + i));
        }
        if (all) return true;
      }
      return false;
    }
    if (part.endsWith("*")) {
      String begin = part.substring(0, part.length() - 1);
      return stems.stream().anyMatch(s -> s != null && s.startsWith(begin));
    }
    return !isStop(part, text.language) && stems.contains(stemOf(part, text.language));
  }

  private long scoreOf(Text text, List<Text> scope, Set<String> scored) {
    long sum = 0;
    for (String stem : scored) {
      long times = stemsOf(text).stream().filter(stem::equals).count();
      long having = scope.stream().filter(t -> stemsOf(t).contains(stem)).count();
      if (having > 0) sum += times * 5342931457063200L / having;
    }
    return sum;
  }

  /** Whether word becomes other by at most so many changes, tried out from their ends. */
  private static boolean becomes(String word, String other, int changes) {
    if (changes < 0 || Math.abs(word.length() - other.length()) > changes) return false;
    if (word.isEmpty() || other.isEmpty()) return true;
    String shorter = word.substring(0, word.length() - 1);
    String otherShorter = other.substring(0, other.length() - 1);
    boolean same = word.charAt(word.length() - 1) == other.charAt(other.length() - 1);
    return becomes(shorter, otherShorter, same ? changes : changes - 1)
        || becomes(shorter, other, changes - 1)
        || becomes(word, otherShorter, changes - 1);
  }

  private enum State { WANTED, MINUS, WORD, BETWEEN, OPEN, INSIDE, APART }

  /** By states, byte after byte; -1 without a fault. */
  static int fault(String question) {
    State state = State.WANTED;
    int run = 0;
    for (int i = 0; i < question.length(); i++) {
      char c = question.charAt(i);
      run = inWord(c) ? run + 1 : 0;
      if (run > 12) return i;
      State next = next(state, c);
      if (next == null) return i;
      state = next;
    }
    return state == State.WORD || state == State.BETWEEN ? -1 : question.length();
  }

  private static State next(State state, char c) {
    if (inWord(c)) {
      return state == State.OPEN || state == State.INSIDE || state == State.APART ? State.INSIDE : State.WORD;
    }
    switch (state) {
      case WANTED:
        return c == ' ' ? State.WANTED : c == '-' ? State.MINUS : c == '"' ? State.OPEN : null;
      case MINUS:
        return c == '"' ? State.OPEN : null;
      case OPEN:
        return c == ' ' ? State.OPEN : null;
      case INSIDE:
      case APART:
        return c == ' ' ? State.APART : c == '"' ? State.BETWEEN : null;
      default:
        if (c == '*') return state == State.WORD ? State.BETWEEN : null;
        return c == ' ' ? State.BETWEEN : c == '|' ? State.WANTED
            : c == '-' ? State.MINUS : c == '"' ? State.OPEN : null;
    }
  }

  /** Of a question without a fault. */
  private static List<List<Part>> rows(String question) {
    List<List<Part>> rows = new ArrayList<>();
    for (String row : lower(question).split("\\|")) {
      List<Part> parts = new ArrayList<>();
      java.util.regex.Matcher matcher =
          java.util.regex.Pattern.compile("(-?)(\"[^\"]*\"|[a-z0-9]+\\*?)").matcher(row);
      while (matcher.find()) parts.add(new Part(!matcher.group(1).isEmpty(), matcher.group(2)));
      rows.add(parts);
    }
    return rows;
  }
}
