import java.nio.charset.StandardCharsets;

/** What all tests use: a tape fed by a text, answers compared, and the exit code of a test. */
final class Bench {
  private final String title;
  private int wrong = 0;
  private int checks = 0;
  private String sentence = "";
  private int sentences = 0;
  private int checksBefore = 0;
  /** It reads every text of a test, so that what one text leaves behind meets all the others. */
  private final CircuitCycles used = new CircuitCycles();

  Bench(String title) {
    this.title = title;
  }

  /** The document's own words that the answers from here on are asked by. */
  void says(String words) {
    leaveSentence();
    sentence = words;
    sentences++;
    checksBefore = checks;
  }

  /** A sentence without an answer would be one without a test. */
  private void leaveSentence() {
    if (sentences > 0 && checks == checksBefore) report("nothing is asked");
  }

  private void report(String what) {
    wrong++;
    System.out.println(title + ": " + what);
    if (sentences > 0) System.out.println("  the document: " + sentence);
  }

  void due(String what, long got, long want) {
    checks++;
    if (got != want) report(what + " answered " + got + ", due is " + want);
  }

  void dueText(String what, String got, String want) {
    checks++;
    if (!got.equals(want)) report(what + " answered " + got + ", due is " + want);
  }

  void end() {
    leaveSentence();
    String asked = sentences > 0 ? sentences + " sentences, " : "";
    System.out.println(title + ": " + asked + checks + " answers, " + wrong + " of them wrong");
    if (wrong != 0) System.exit(1);
  }

  /** Something that may throw. */
  interface Call {
    void go();
  }

  void dueThrow(String what, Call call, Class<? extends RuntimeException> want) {
    Class<?> got = null;
    try {
      call.go();
    } catch (RuntimeException e) {
      got = e.getClass();
    }
    checks++;
    if (got != want) report(what + " threw " + got + ", due is " + want);
  }

  static byte[] bytes(String text) {
    return text.getBytes(StandardCharsets.ISO_8859_1);
  }

  private static int word(byte[] bytes, int at) {
    int word = 0;
    for (int i = at; i < at + 4; i++) word = (word << 8) | (i < bytes.length ? bytes[i] & 255 : 0);
    return word;
  }

  /**
   * Puts these bytes behind those that the tape has, of which there are that many. What is not a
   * whole feed goes first, so that a tape can be filled to its last byte.
   */
  static void feed(CircuitCycles x, byte[] bytes, int before) {
    int at = 0;
    while (at < bytes.length) {
      x.feed(word(bytes, at), word(bytes, at + 4), word(bytes, at + 8), word(bytes, at + 12), word(bytes, at + 16));
      at += (bytes.length - at) % 20 == 0 ? 20 : (bytes.length - at) % 20;
      x.end(before + at);
    }
  }

  static int read(CircuitCycles x, String text) {
    feed(x, bytes(text), 0);
    return x.read();
  }

  static int find(CircuitCycles x, String name) {
    feed(x, bytes(name), 0);
    return x.find();
  }

  /** A circuit that must be without a fault. */
  CircuitCycles circuit(String text) {
    CircuitCycles x = new CircuitCycles();
    due("read of " + brief(text), read(x, text), CircuitCycles.NONE);
    due("fault of " + brief(text), x.fault(), 0);
    due("read by a used one of " + brief(text), read(used, text), CircuitCycles.NONE);
    due("fault by a used one of " + brief(text), used.fault(), 0);
    CircuitCycles fresh = new CircuitCycles();
    read(fresh, text);
    if (fresh.fault() == 0) dueText("all answers of a used one of " + brief(text), run(used), run(fresh));
    return x;
  }

  /** All answers of a circuit in this cycle and, with all inputs at their greatest, in the next ones. */
  static String run(CircuitCycles x) {
    StringBuilder s = new StringBuilder();
    for (int what = 0; what <= 6; what++) s.append(x.count(what)).append(' ');
    for (int n = 0; n < 3; n++) {
      for (int i = 0; i < x.count(2); i++) {
        s.append(x.signal(i, 0)).append(' ').append(x.signal(i, 1)).append(' ').append(x.signal(i, 2)).append(' ').append(x.value(i)).append(',');
        if (n == 1 && x.signal(i, 1) == 0) x.set(i, (1 << x.signal(i, 0)) - 1);
      }
      s.append(x.failing()).append(' ').append(x.step()).append(';');
    }
    return s.toString();
  }

  private static String brief(String text) {
    return text.length() > 400 ? text.substring(0, 190) + " .. " + text.substring(text.length() - 190) : text;
  }

  /**
   * A text with a fault: its place is where the mark # stands, which is taken out; without a mark it
   * is the text's end.
   */
  void dueFault(int code, String marked) {
    int place = marked.indexOf('#');
    String text = place < 0 ? marked : marked.substring(0, place) + marked.substring(place + 1);
    dueFaultAt(code, place < 0 ? text.length() : place, text);
  }

  /** The same for a text in which # may stand. */
  void dueFaultAt(int code, int place, String text) {
    CircuitCycles x = new CircuitCycles();
    String told = brief(text);
    due("read of " + told, read(x, text), place);
    due("fault of " + told, x.fault(), code);
    dueThrow("step behind " + told, x::step, IllegalStateException.class);
    due("read by a used one of " + told, read(used, text), place);
    due("fault by a used one of " + told, used.fault(), code);
  }

  /** Either of the two: no fault (code 0), or that one at that place. */
  void dueRead(int code, int place, String text) {
    if (code == 0) circuit(text);
    else dueFaultAt(code, place, text);
  }

  /** The text, with blanks in front of its end so that it is that long. */
  static String padded(String head, String tail, int size) {
    return head + " ".repeat(size - head.length() - tail.length()) + tail;
  }

  /** Items of which each has its own number in place of %. */
  static String repeated(String item, int from, int to) {
    StringBuilder s = new StringBuilder();
    for (int i = from; i < to; i++) s.append(item.replace("%", "" + i));
    return s.toString();
  }

  /** The shortest names first, none of them twice and none a keyword: A, B and so on, AA and so on. */
  static String word(int number) {
    StringBuilder word = new StringBuilder();
    for (int n = number; n >= 0; n = n / 26 - 1) word.append((char) ('A' + n % 26));
    return word.reverse().toString();
  }

  void dueValue(CircuitCycles x, String name, long want) {
    int s = find(x, name);
    due("is there " + name, s >= 0 ? 1 : 0, 1);
    if (s >= 0) due("value of " + name, x.value(s), want);
  }
}
