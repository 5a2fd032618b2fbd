import java.util.ArrayList;
import java.util.Arrays;

/** Texts in three languages, and the questions that they answer by an exact score. */
public final class TextIndices {
  public static final int BAD = -1;
  public static final int NO = -2;
  public static final int FULL = -3;

  private static final int LANGUAGES = 3;
  private static final int FIELDS = 4;
  private static final int ALL_FIELDS = -1;
  private static final int MOST_BYTES_TYPED = 8;
  private static final int MOST_CHANGES = 3;
  private static final int NO_FAULT = -1;
  private static final int FAULT_AT_ZERO = -10;

  private final Tape tape;
  private final Language[] languages;
  private final Shelf shelf;
  private final Question question;
  private final Answers answers;
  private final Likes likes;
  private long told;

  public TextIndices() {
    tape = new Tape();
    languages = new Language[LANGUAGES];
    for (int i = 0; i < languages.length; i++) {
      languages[i] = new Language(i);
    }
    shelf = new Shelf();
    question = new Question(tape);
    answers = new Answers();
    likes = new Likes();
    told = Words.NONE;
  }

  public int type(long bytes, int n) {
    if (n < 1 || n > MOST_BYTES_TYPED) {
      return BAD;
    }
    return tape.append(bytes, n) ? tape.length() : FULL;
  }

  public int text(int language, int field) {
    Language tongue = languageOf(language);
    if (tongue == null || field < 0 || field >= FIELDS) {
      return BAD;
    }
    tape.split();
    int number = shelf.put(tongue, field, tape);
    tape.clear();
    return number;
  }

  public int remove(int text) {
    return shelf.takeAway(text) ? 1 : BAD;
  }

  public int stop(int language) {
    Language tongue = languageOf(language);
    if (tongue == null) {
      return BAD;
    }
    int found = tape.split();
    int fresh = 0;
    for (int i = 0; i < found; i++) {
      if (tongue.addStop(tape.wordAt(i))) {
        fresh++;
      }
    }
    tape.clear();
    shelf.stemAgain(tongue);
    return fresh;
  }

  public int ending(int language) {
    Language tongue = languageOf(language);
    if (tongue == null) {
      return BAD;
    }
    int found = tape.split();
    long ending = tape.wordAt(0);
    long instead = tape.wordAt(1);
    tape.clear();
    if (found < 1 || found > 2) {
      return NO;
    }
    if (!tongue.addRule(ending, instead)) {
      return FULL;
    }
    shelf.stemAgain(tongue);
    return tongue.ruleCount();
  }

  public int stem(int language) {
    Language tongue = languageOf(language);
    if (tongue == null) {
      return BAD;
    }
    long word = takeFirstWord();
    if (word == Words.NONE) {
      return NO;
    }
    return tell(tongue.stemOf(word));
  }

  public int ask(int language, int field) {
    Language tongue = languageOf(language);
    if (tongue == null || field < ALL_FIELDS || field >= FIELDS) {
      return BAD;
    }
    int fault = question.read();
    tape.clear();
    if (fault != NO_FAULT) {
      return FAULT_AT_ZERO - fault;
    }
    question.stemSought(tongue);
    question.weigh(shelf, language, field);
    answers.clear();
    for (int text = 0; text < Shelf.MOST_TEXTS; text++) {
      if (shelf.isIn(text, language, field) && question.isAnsweredBy(shelf, text)) {
        answers.add(text, question.weightOf(shelf, text));
      }
    }
    return answers.count();
  }

  public int answer(int i) {
    return answers.textAt(i);
  }

  public long score(int i) {
    return answers.weightAt(i);
  }

  public int like(int language, int changes) {
    if (languageOf(language) == null || changes < 0 || changes > MOST_CHANGES) {
      return BAD;
    }
    long word = takeFirstWord();
    likes.clear();
    if (word == Words.NONE) {
      return NO;
    }
    likes.search(shelf, language, word, changes);
    return likes.count();
  }

  public int word(int i) {
    long found = likes.wordAt(i);
    return found == Words.NONE ? NO : tell(found);
  }

  public int at(int i) {
    return i >= 0 && i < Words.lengthOf(told) ? Words.symbolAt(told, i) : BAD;
  }

  public int place(int text, int place, int part) {
    if (!shelf.hasPlace(text, place)) {
      return BAD;
    }
    if (part == 0) {
      return shelf.startOf(text, place);
    }
    return part == 1 ? shelf.sizeOf(text, place) : BAD;
  }

  public int texts() {
    return shelf.countTexts();
  }

  public int stems(int language) {
    return languageOf(language) == null ? BAD : shelf.countStems(language);
  }

  private Language languageOf(int number) {
    return number >= 0 && number < languages.length ? languages[number] : null;
  }

  private long takeFirstWord() {
    tape.split();
    long word = tape.wordAt(0);
    tape.clear();
    return word;
  }

  private int tell(long word) {
    told = word;
    return Words.lengthOf(word);
  }

  /**
   * A word is held as a number: twelve digits of base 37, its first byte's digit first and zeros
   * behind its last one's. So equal words are equal numbers, and numbers stand in the order of the
   * words' bytes, one that is the beginning of another first.
   */
  private static final class Words {
    static final long NONE = 0;
    static final int LONGEST = 12;
    private static final int BASE = 37;
    private static final int DIGIT_OF_ZERO = 1;
    private static final int DIGIT_OF_A = 11;

    /** 1 .. 36, or 0 for what is neither letter nor digit. */
    static int digitOf(int symbol) {
      if (symbol >= '0' && symbol <= '9') {
        return symbol - '0' + DIGIT_OF_ZERO;
      }
      if (symbol >= 'a' && symbol <= 'z') {
        return symbol - 'a' + DIGIT_OF_A;
      }
      if (symbol >= 'A' && symbol <= 'Z') {
        return symbol - 'A' + DIGIT_OF_A;
      }
      return 0;
    }

    static long withDigit(long number, int digit) {
      return number * BASE + digit;
    }

    static long withZeros(long number, int zeros) {
      long longer = number;
      for (int i = 0; i < zeros && i < LONGEST; i++) {
        longer *= BASE;
      }
      return longer;
    }

    static long withoutLast(long number, int digits) {
      long shorter = number;
      for (int i = 0; i < digits && i < LONGEST; i++) {
        shorter /= BASE;
      }
      return shorter;
    }

    static int lengthOf(long word) {
      long rest = word;
      for (int length = LONGEST; length > 0; length--) {
        if (rest % BASE != 0) {
          return length;
        }
        rest /= BASE;
      }
      return 0;
    }

    static int symbolAt(long word, int i) {
      int digit = (int) (withoutLast(word, LONGEST - 1 - i) % BASE);
      return digit >= DIGIT_OF_A ? digit - DIGIT_OF_A + 'a' : digit - DIGIT_OF_ZERO + '0';
    }

    static boolean isBeginning(long beginning, long word) {
      int rest = LONGEST - lengthOf(beginning);
      return withoutLast(beginning, rest) == withoutLast(word, rest);
    }

    /** The word's digits into a row; its length. */
    static int spread(long word, int[] row) {
      long rest = word;
      int length = 0;
      for (int i = LONGEST - 1; i >= 0; i--) {
        int digit = (int) (rest % BASE);
        if (i < row.length) {
          row[i] = digit;
        }
        length += digit != 0 ? 1 : 0;
        rest /= BASE;
      }
      return length;
    }
  }

  /** The bytes typed, and the words in them once they are split. */
  private static final class Tape {
    static final int LONGEST = 96;
    static final int MOST_WORDS = 48;
    static final int NOTHING = -1;
    private final int[] symbols = new int[LONGEST];
    private int length;
    private final long[] words = new long[MOST_WORDS];
    private final int[] starts = new int[MOST_WORDS];
    private final int[] sizes = new int[MOST_WORDS];
    private int found;

    int length() {
      return length;
    }

    boolean append(long bytes, int n) {
      if (length + n > LONGEST) {
        return false;
      }
      for (int i = n - 1; i >= 0 && length < symbols.length; i--) {
        symbols[length] = (int) ((bytes >>> (8 * i)) & 255);
        length++;
      }
      return true;
    }

    void clear() {
      length = 0;
      found = 0;
    }

    int symbolAt(int place) {
      return place >= 0 && place < length && place < symbols.length ? symbols[place] : NOTHING;
    }

    /** The first place from here on that is in no word. */
    int wordEnd(int start) {
      for (int end = start; end < length; end++) {
        if (Words.digitOf(symbolAt(end)) == 0) {
          return end;
        }
      }
      return length;
    }

    long wordBetween(int start, int end) {
      long word = Words.NONE;
      for (int i = 0; i < Words.LONGEST; i++) {
        int place = start + i;
        word = Words.withDigit(word, place < end ? Words.digitOf(symbolAt(place)) : 0);
      }
      return word;
    }

    /** Finds the words; how many there are. */
    int split() {
      found = 0;
      boolean inside = false;
      for (int place = 0; place < length; place++) {
        boolean before = inside;
        inside = Words.digitOf(symbolAt(place)) != 0;
        if (inside && !before) {
          keepWord(place, wordEnd(place));
        }
      }
      return found;
    }

    private void keepWord(int start, int end) {
      if (found < MOST_WORDS) {
        words[found] = wordBetween(start, end);
        starts[found] = start;
        sizes[found] = end - start;
        found++;
      }
    }

    int wordCount() {
      return found;
    }

    private boolean hasWord(int i) {
      return i >= 0 && i < found && i < MOST_WORDS;
    }

    long wordAt(int i) {
      return hasWord(i) ? words[i] : Words.NONE;
    }

    int startAt(int i) {
      return hasWord(i) ? starts[i] : 0;
    }

    int sizeAt(int i) {
      return hasWord(i) ? sizes[i] : 0;
    }
  }

  /** A language's stop words and rules. */
  private static final class Language {
    private static final int MOST_RULES = 8;
    private static final int LEAST_BEFORE_ENDING = 3;
    private static final int FEW_STOPS = 32;
    // 512 calls can type no more than some 1,900 words.
    private static final int MOST_STOPS = 2048;
    private final int number;
    private final long[] endings = new long[MOST_RULES];
    private final long[] insteads = new long[MOST_RULES];
    private int rules;
    private long[] stops = new long[FEW_STOPS];
    private int stopCount;

    Language(int number) {
      this.number = number;
    }

    int number() {
      return number;
    }

    boolean isStop(long word) {
      for (int i = 0; i < stopCount && i < stops.length; i++) {
        if (stops[i] == word) {
          return true;
        }
      }
      return false;
    }

    /** Whether the word is a new one. */
    boolean addStop(long word) {
      if (isStop(word)) {
        return false;
      }
      if (stopCount >= stops.length && stops.length < MOST_STOPS) {
        stops = Arrays.copyOf(stops, 2 * stops.length);
      }
      if (stopCount >= stops.length) {
        return false;
      }
      stops[stopCount] = word;
      stopCount++;
      return true;
    }

    int ruleCount() {
      return rules;
    }

    boolean addRule(long ending, long instead) {
      if (rules >= MOST_RULES) {
        return false;
      }
      endings[rules] = ending;
      insteads[rules] = instead;
      rules++;
      return true;
    }

    long stemOf(long word) {
      int length = Words.lengthOf(word);
      for (int i = 0; i < rules && i < MOST_RULES; i++) {
        int kept = length - Words.lengthOf(endings[i]);
        if (kept >= LEAST_BEFORE_ENDING && isEnding(endings[i], word)) {
          long head = Words.withoutLast(word, Words.LONGEST - kept);
          return Words.withZeros(head, Words.LONGEST - kept) + Words.withoutLast(insteads[i], kept);
        }
      }
      return word;
    }

    /** For an ending that is shorter than the word. */
    private static boolean isEnding(long ending, long word) {
      int length = Words.lengthOf(ending);
      long endingDigits = Words.withoutLast(ending, Words.LONGEST - length);
      long wordDigits = Words.withoutLast(word, Words.LONGEST - Words.lengthOf(word));
      long head = Words.withoutLast(wordDigits, length);
      return wordDigits - Words.withZeros(head, length) == endingDigits;
    }

    /** The stem that a text has where the word stands; NONE for a stop word. */
    long stemInTexts(long word) {
      return isStop(word) ? Words.NONE : stemOf(word);
    }
  }

  /** The texts, with the words of all of them in one row. */
  private static final class Shelf {
    static final int MOST_TEXTS = 40;
    static final int MOST_WORDS = 400;
    private final int[] tongues = new int[MOST_TEXTS];
    private final int[] fields = new int[MOST_TEXTS];
    private final boolean[] gone = new boolean[MOST_TEXTS];
    // One more than there are texts: a text's words end where the next one's begin.
    private final int[] firsts = new int[MOST_TEXTS + 1];
    private int count;
    private final long[] words = new long[MOST_WORDS];
    private final long[] stems = new long[MOST_WORDS];
    private final int[] starts = new int[MOST_WORDS];
    private final int[] sizes = new int[MOST_WORDS];
    private int wordCount;

    /** The new text's number, or FULL. */
    int put(Language tongue, int field, Tape tape) {
      if (count >= MOST_TEXTS || wordCount + tape.wordCount() > MOST_WORDS) {
        return FULL;
      }
      int number = count;
      tongues[number] = tongue.number();
      fields[number] = field;
      firsts[number] = wordCount;
      for (int i = 0; i < tape.wordCount() && wordCount < MOST_WORDS; i++) {
        words[wordCount] = tape.wordAt(i);
        stems[wordCount] = tongue.stemInTexts(tape.wordAt(i));
        starts[wordCount] = tape.startAt(i);
        sizes[wordCount] = tape.sizeAt(i);
        wordCount++;
      }
      count++;
      firsts[count] = wordCount;
      return number;
    }

    boolean takeAway(int text) {
      if (!has(text)) {
        return false;
      }
      gone[text] = true;
      return true;
    }

    boolean has(int text) {
      return text >= 0 && text < count && text < MOST_TEXTS && !gone[text];
    }

    boolean isIn(int text, int language, int field) {
      return has(text) && tongues[text] == language && (field == ALL_FIELDS || fields[text] == field);
    }

    int firstOf(int text) {
      return has(text) ? firsts[text] : 0;
    }

    int endOf(int text) {
      return has(text) ? Math.min(firsts[text + 1], MOST_WORDS) : 0;
    }

    /** After a new stop word or rule: texts have stems by the rules as they are now. */
    void stemAgain(Language tongue) {
      for (int text = 0; text < count; text++) {
        int end = isIn(text, tongue.number(), ALL_FIELDS) ? endOf(text) : 0;
        for (int i = firstOf(text); i < end; i++) {
          stems[i] = tongue.stemInTexts(words[i]);
        }
      }
    }

    boolean hasPlace(int text, int place) {
      return has(text) && place >= 0 && place < endOf(text) - firstOf(text);
    }

    int startOf(int text, int place) {
      return hasPlace(text, place) ? starts[firstOf(text) + place] : BAD;
    }

    int sizeOf(int text, int place) {
      return hasPlace(text, place) ? sizes[firstOf(text) + place] : BAD;
    }

    int countTexts() {
      int here = 0;
      for (int text = 0; text < count; text++) {
        if (has(text)) {
          here++;
        }
      }
      return here;
    }

    int countStems(int language) {
      int different = 0;
      for (int text = 0; text < count; text++) {
        if (isIn(text, language, ALL_FIELDS)) {
          different += countNewStems(text, language);
        }
      }
      return different;
    }

    private int countNewStems(int text, int language) {
      int fresh = 0;
      int end = endOf(text);
      for (int i = firstOf(text); i < end; i++) {
        if (stems[i] != Words.NONE && !hasEarlier(i, text, language)) {
          fresh++;
        }
      }
      return fresh;
    }

    private boolean hasEarlier(int word, int text, int language) {
      for (int other = 0; other <= text; other++) {
        if (isIn(other, language, ALL_FIELDS)) {
          int end = Math.min(word, endOf(other));
          for (int i = firstOf(other); i < end; i++) {
            if (stems[i] == stems[word]) {
              return true;
            }
          }
        }
      }
      return false;
    }

    int timesOf(long stem, int text) {
      int times = 0;
      int end = endOf(text);
      for (int i = firstOf(text); i < end; i++) {
        if (stem != Words.NONE && stems[i] == stem) {
          times++;
        }
      }
      return times;
    }

    int countTextsWith(long stem, int language, int field) {
      int having = 0;
      for (int text = 0; text < count; text++) {
        if (isIn(text, language, field) && timesOf(stem, text) > 0) {
          having++;
        }
      }
      return having;
    }

    boolean hasBeginning(long beginning, int text) {
      int end = endOf(text);
      for (int i = firstOf(text); i < end; i++) {
        if (stems[i] != Words.NONE && Words.isBeginning(beginning, stems[i])) {
          return true;
        }
      }
      return false;
    }

    /** Whether the stems of a row, from its place first on, stand one behind another; NONE is any word. */
    boolean hasPhrase(long[] row, int first, int length, int text) {
      int end = endOf(text);
      for (int i = firstOf(text); i + length <= end; i++) {
        if (standsAt(i, row, first, length)) {
          return true;
        }
      }
      return false;
    }

    private boolean standsAt(int start, long[] row, int first, int length) {
      for (int i = 0; i < length; i++) {
        if (first + i >= row.length || start + i >= stems.length) {
          return false;
        }
        long wanted = row[first + i];
        if (wanted != Words.NONE && stems[start + i] != wanted) {
          return false;
        }
      }
      return true;
    }

    /** Of the row of all texts' words; NONE for a stop word. */
    long wordUnlessStop(int i) {
      boolean held = i >= 0 && i < wordCount && i < MOST_WORDS;
      return held && stems[i] != Words.NONE ? words[i] : Words.NONE;
    }
  }

  private enum Kind { WORD, BEGINNING, PHRASE }

  /** A part of a question; what is sought stands in the question's row, from first on. */
  private static final class Part {
    final Kind kind;
    final boolean without;
    final int row;
    final int first;
    final int length;

    Part(Kind kind, boolean without, int row, int first, int length) {
      this.kind = kind;
      this.without = without;
      this.row = row;
      this.first = first;
      this.length = length;
    }
  }

  /** The question read latest from the tape, and what its words weigh. */
  private static final class Question {
    // A multiple of 1 .. 40, so that every share is a whole number.
    private static final long WHOLE = 5342931457063200L;
    private static final int BLANK = 32;
    private final Tape tape;
    private final ArrayList<Part> parts = new ArrayList<Part>();
    // Words, and once they are stemmed NONE for a stop word.
    private final long[] sought = new long[Tape.MOST_WORDS];
    private int soughtCount;
    private final long[] terms = new long[Tape.MOST_WORDS];
    private final long[] shares = new long[Tape.MOST_WORDS];
    private int termCount;
    private int place;
    private int row;

    Question(Tape tape) {
      this.tape = tape;
    }

    /** NO_FAULT, or the place of the first byte that can't stand there. */
    int read() {
      parts.clear();
      soughtCount = 0;
      place = 0;
      row = 0;
      boolean partWanted = true;
      for (int i = 0; i <= Tape.LONGEST; i++) {
        skipBlanks();
        if (place >= tape.length()) {
          return partWanted ? place : NO_FAULT;
        }
        if (!partWanted && tape.symbolAt(place) == '|') {
          place++;
          row++;
          partWanted = true;
        } else if (readPart()) {
          partWanted = false;
        } else {
          return place;
        }
      }
      return place;
    }

    private void skipBlanks() {
      for (int i = 0; i < Tape.LONGEST && tape.symbolAt(place) == BLANK; i++) {
        place++;
      }
    }

    /** False with a fault, and place is where it stands then. */
    private boolean readPart() {
      boolean without = tape.symbolAt(place) == '-';
      if (without) {
        place++;
      }
      if (tape.symbolAt(place) == '"') {
        place++;
        return readPhrase(without);
      }
      long word = readWord();
      if (word == Words.NONE) {
        return false;
      }
      boolean beginning = tape.symbolAt(place) == '*';
      if (beginning) {
        place++;
      }
      parts.add(new Part(beginning ? Kind.BEGINNING : Kind.WORD, without, row, soughtCount, 1));
      seek(word);
      return true;
    }

    private boolean readPhrase(boolean without) {
      int first = soughtCount;
      for (int i = 0; i <= Tape.LONGEST; i++) {
        skipBlanks();
        if (tape.symbolAt(place) == '"' && soughtCount > first) {
          place++;
          parts.add(new Part(Kind.PHRASE, without, row, first, soughtCount - first));
          return true;
        }
        long word = readWord();
        if (word == Words.NONE) {
          return false;
        }
        seek(word);
      }
      return false;
    }

    /** NONE with a fault, and place is where it stands then. */
    private long readWord() {
      int start = place;
      int end = tape.wordEnd(start);
      if (end - start > Words.LONGEST) {
        place = start + Words.LONGEST;
        return Words.NONE;
      }
      place = end;
      return tape.wordBetween(start, end);
    }

    private void seek(long word) {
      if (soughtCount < sought.length) {
        sought[soughtCount] = word;
        soughtCount++;
      }
    }

    /** Only a beginning is sought as it is; of all other words texts have stems. */
    void stemSought(Language tongue) {
      for (int i = 0; i < parts.size(); i++) {
        Part part = parts.get(i);
        int end = Math.min(part.first + part.length, sought.length);
        for (int j = part.first; j < end && part.kind != Kind.BEGINNING; j++) {
          sought[j] = tongue.stemInTexts(sought[j]);
        }
      }
    }

    private long soughtBy(Part part) {
      return part.first >= 0 && part.first < sought.length ? sought[part.first] : Words.NONE;
    }

    /** Each stem of the question once, and what a text gets for having it at one place. */
    void weigh(Shelf shelf, int language, int field) {
      termCount = 0;
      for (int i = 0; i < parts.size(); i++) {
        Part part = parts.get(i);
        long stem = soughtBy(part);
        boolean counts = part.kind == Kind.WORD && !part.without && stem != Words.NONE;
        if (counts && !hasTerm(stem) && termCount < terms.length) {
          int having = shelf.countTextsWith(stem, language, field);
          terms[termCount] = stem;
          shares[termCount] = having > 0 ? WHOLE / having : 0;
          termCount++;
        }
      }
    }

    private boolean hasTerm(long stem) {
      for (int i = 0; i < termCount && i < terms.length; i++) {
        if (terms[i] == stem) {
          return true;
        }
      }
      return false;
    }

    long weightOf(Shelf shelf, int text) {
      long sum = 0;
      for (int i = 0; i < termCount && i < terms.length; i++) {
        sum += shelf.timesOf(terms[i], text) * shares[i];
      }
      return sum;
    }

    boolean isAnsweredBy(Shelf shelf, int text) {
      boolean rowHolds = false;
      int current = -1;
      for (int i = 0; i < parts.size(); i++) {
        Part part = parts.get(i);
        if (part.row != current) {
          if (rowHolds) {
            return true;
          }
          rowHolds = true;
          current = part.row;
        }
        if (rowHolds && isPartAnsweredBy(part, shelf, text) == part.without) {
          rowHolds = false;
        }
      }
      return rowHolds;
    }

    private boolean isPartAnsweredBy(Part part, Shelf shelf, int text) {
      if (part.kind == Kind.PHRASE) {
        return shelf.hasPhrase(sought, part.first, part.length, text);
      }
      if (part.kind == Kind.BEGINNING) {
        return shelf.hasBeginning(soughtBy(part), text);
      }
      return shelf.timesOf(soughtBy(part), text) > 0;
    }
  }

  /** The answers to the latest question, the greatest weight first. */
  private static final class Answers {
    private final int[] numbers = new int[Shelf.MOST_TEXTS];
    private final long[] weights = new long[Shelf.MOST_TEXTS];
    private int count;

    void clear() {
      count = 0;
    }

    int count() {
      return count;
    }

    /** Texts come by their numbers, so one behind others of its weight stands right. */
    void add(int text, long weight) {
      if (count >= numbers.length) {
        return;
      }
      int i = count;
      for (; i > 0 && weights[i - 1] < weight; i--) {
        numbers[i] = numbers[i - 1];
        weights[i] = weights[i - 1];
      }
      numbers[i] = text;
      weights[i] = weight;
      count++;
    }

    private boolean has(int i) {
      return i >= 0 && i < count && i < numbers.length;
    }

    int textAt(int i) {
      return has(i) ? numbers[i] : NO;
    }

    long weightAt(int i) {
      return has(i) ? weights[i] : 0;
    }
  }

  /** The words that become another one by few changes, the fewest first. */
  private static final class Likes {
    private final long[] words = new long[Shelf.MOST_WORDS];
    private final int[] changes = new int[Shelf.MOST_WORDS];
    private int count;
    private final int[] model = new int[Words.LONGEST];
    private int modelLength;
    private final int[] other = new int[Words.LONGEST];
    private final int[] costs = new int[Words.LONGEST + 1];

    void clear() {
      count = 0;
    }

    int count() {
      return count;
    }

    long wordAt(int i) {
      return i >= 0 && i < count && i < words.length ? words[i] : Words.NONE;
    }

    void search(Shelf shelf, int language, long word, int most) {
      modelLength = Words.spread(word, model);
      for (int text = 0; text < Shelf.MOST_TEXTS; text++) {
        int end = shelf.isIn(text, language, ALL_FIELDS) ? shelf.endOf(text) : 0;
        for (int i = shelf.firstOf(text); i < end; i++) {
          offer(shelf.wordUnlessStop(i), most);
        }
      }
    }

    private void offer(long word, int most) {
      if (word == Words.NONE || holds(word)) {
        return;
      }
      int needed = changesNeeded(Words.spread(word, other));
      if (needed <= most) {
        insert(word, needed);
      }
    }

    private boolean holds(long word) {
      for (int i = 0; i < count && i < words.length; i++) {
        if (words[i] == word) {
          return true;
        }
      }
      return false;
    }

    private void insert(long word, int needed) {
      if (count >= words.length) {
        return;
      }
      int i = count;
      for (; i > 0 && standsBefore(word, needed, i - 1); i--) {
        words[i] = words[i - 1];
        changes[i] = changes[i - 1];
      }
      words[i] = word;
      changes[i] = needed;
      count++;
    }

    private boolean standsBefore(long word, int needed, int i) {
      if (i < 0 || i >= words.length) {
        return false;
      }
      return needed < changes[i] || (needed == changes[i] && word < words[i]);
    }

    /** Row by row: costs[j] is what the model's beginning needs to become the other's first j bytes. */
    private int changesNeeded(int otherLength) {
      int width = Math.min(otherLength, other.length);
      for (int j = 0; j <= width; j++) {
        costs[j] = j;
      }
      for (int i = 0; i < modelLength && i < model.length; i++) {
        int diagonal = costs[0];
        costs[0] = i + 1;
        for (int j = 1; j <= width; j++) {
          int exchange = diagonal + (model[i] == other[j - 1] ? 0 : 1);
          diagonal = costs[j];
          costs[j] = Math.min(exchange, 1 + Math.min(costs[j], costs[j - 1]));
        }
      }
      return width >= 0 ? costs[width] : 0;
    }
  }
}
