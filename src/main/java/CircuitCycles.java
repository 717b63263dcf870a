import java.util.Arrays;

/**
 * Reads the description of a clocked circuit, refuses it at its first fault, and runs it cycle by
 * cycle. A tape goes through Scanner (tokens), Grammar (faults 1 to 3), Meaning and Checker (faults
 * 20 to 33), Design (40 to 44 and 46) and Order (45); what stands then is a Circuit for Machine.
 */
public final class CircuitCycles {
  public static final int NONE = -1;

  private static final int TAPE_LIMIT = 65536;
  private static final int FEED_BYTES = 20;
  private static final int OPEN_LIMIT = 60;
  private static final int WIDTH_LIMIT = 64;
  private static final int PLAIN_LIMIT = 65535;
  private static final int INSTANCE_LIMIT = 256;
  private static final int SIGNAL_LIMIT = 1024;
  private static final int REGISTER_LIMIT = 12;
  private static final int INPUT_LIMIT = 6;
  private static final int COST_LIMIT = 1500;
  private static final long WORK_LIMIT = 16777216L;

  /** Sums stop here, far above every limit, so that none of them can wrap around. */
  private static final int CAP = 1 << 28;

  /** At each of the 60 open places an exp keeps at most twelve operands, and as many signs, waiting. */
  private static final int STACK_ROOM = 1024;

  // All rows are made with the object, as long as the longest tape can ask for: by the fewest bytes
  // that one of its things takes, and one more for a last thing that is not told to its end.
  private static final int TOKEN_ROOM = TAPE_LIMIT + 1;
  /** No token makes more ops than it has bytes. */
  private static final int CODE_ROOM = TAPE_LIMIT + 1;
  /** A literal: 1'b0, and a byte between it and the next one. */
  private static final int LITERAL_ROOM = TAPE_LIMIT / 5 + 1;
  /** There are 53 words of one byte and 53 * 64 of two; others take three and one between them. */
  private static final int WORD_ROOM = 53 + 53 * 64 + TAPE_LIMIT / 4 + 1;
  /** A module: module a();endmodule */
  private static final int MODULE_ROOM = TAPE_LIMIT / 20 + 1;
  /** A piece of code that is run: assert(a); */
  private static final int PIECE_ROOM = TAPE_LIMIT / 10 + 1;
  /** A declaration: reg a; an instance: a b(); a link: .a(b), */
  private static final int PART_ROOM = TAPE_LIMIT / 6 + 1;

  // Kinds of tokens. A sign of one byte has that byte as its kind; an operator's kind is its op, too.
  private static final int STOPPED = -1;
  private static final int AT_END = 0;
  private static final int BAD = 1;
  private static final int NAME = 2;
  private static final int PLAIN = 3;
  private static final int SIZED = 4;
  private static final int AND_AND = 5;
  private static final int OR_OR = 6;
  private static final int SAME = 7;
  private static final int OTHER = 8;
  private static final int AT_MOST = 9;
  private static final int AT_LEAST = 10;
  private static final int LEFT = 11;
  private static final int RIGHT = 12;
  private static final int MODULE = 128;
  private static final int ENDMODULE = 129;
  private static final int INPUT = 130;
  private static final int OUTPUT = 131;
  private static final int WIRE = 132;
  private static final int REG = 133;
  private static final int ASSIGN = 134;
  private static final int ALWAYS = 135;
  private static final int POSEDGE = 136;
  private static final int CLOCK = 137;
  private static final int BEGIN = 138;
  private static final int END = 139;
  private static final int IF = 140;
  private static final int ELSE = 141;
  private static final int CASE = 142;
  private static final int ENDCASE = 143;
  private static final int DEFAULT = 144;
  private static final int ASSERT = 145;

  /** In the order of their kinds, each with a blank behind it. */
  private static final String KEYWORDS =
      "module endmodule input output wire reg assign always posedge clock begin end if else case endcase default assert ";
  private static final String SIGNS = "+-*&|^~!<>?:;,.()[]{}=@";

  // Ops of the code that are no binary operators (those are below UNARY).
  private static final int UNARY = 256;
  private static final int CHOOSE = 512;
  private static final int LITERAL = 513;
  private static final int LOAD = 514;
  private static final int STORE = 515;
  private static final int DROP = 516;
  private static final int JUMP = 517;
  private static final int UNLESS = 518;
  private static final int MATCH = 519;

  // Sorts of declared names, as signal(s, 1) tells them.
  private static final int SORT_INPUT = 0;
  private static final int SORT_DRIVEN = 1;
  private static final int SORT_REGISTER = 2;

  // Sums over a module and all that is in it.
  private static final int INSTANCES = 0;
  private static final int SIGNALS = 1;
  private static final int REGISTER_BITS = 2;
  private static final int ASSERTS = 3;
  private static final int COST = 4;
  private static final int SUMS = 5;

  private int length;
  private int faultCode;
  private final Tokens tokens;
  private final Scanner scanner;
  private final Checker checker;
  private final Grammar grammar;
  private final Order order;
  private final Machine machine;
  private boolean stands;
  /** The one that stands, if one does; and the one that a read makes, whose text is the tape. */
  private Circuit circuit;
  private Circuit spare;

  public CircuitCycles() {
    tokens = new Tokens();
    scanner = new Scanner(tokens);
    checker = new Checker(tokens);
    grammar = new Grammar(tokens, checker, new Meaning(checker));
    order = new Order();
    machine = new Machine();
    circuit = new Circuit();
    spare = new Circuit();
  }

  public int feed(int a, int b, int c, int d, int e) throws UnsupportedOperationException {
    if (length + FEED_BYTES > TAPE_LIMIT) throw new UnsupportedOperationException();
    append(a);
    append(b);
    append(c);
    append(d);
    append(e);
    return length;
  }

  public void end(int n) throws IllegalArgumentException {
    if (n < 0 || n > length) throw new IllegalArgumentException();
    length = n;
  }

  public int read() {
    Design design = spare.design;
    design.clear(length);
    length = 0;
    scanner.scan(design);
    grammar.parse(design, scanner.words);
    int place = tokens.faultPlace;
    faultCode = tokens.faultCode;
    if (faultCode == 0) {
      faultCode = checker.faultCode;
      place = checker.faultPlace;
    }
    if (faultCode == 0) {
      faultCode = design.excess();
      place = design.topPlace();
    }
    if (faultCode == 0) {
      spare.build();
      int looped = order.arrange(spare);
      faultCode = looped == NONE ? 0 : 45;
      place = spare.placeOf(looped);
    }
    if (faultCode != 0) return place;
    Circuit old = circuit;
    circuit = spare;
    spare = old;
    stands = true;
    machine.restart(circuit);
    return NONE;
  }

  public int fault() {
    return faultCode;
  }

  public int count(int what) throws IllegalStateException, IllegalArgumentException {
    if (!stands) throw new IllegalStateException();
    Design design = circuit.design;
    switch (what) {
      case 0: return design.moduleCount;
      case 1: return circuit.instances - 1;
      case 2: return circuit.signals;
      case 3: return design.sumOfTop(REGISTER_BITS);
      case 4: return design.inputBits;
      case 5: return design.sumOfTop(ASSERTS);
      case 6: return design.sumOfTop(COST);
      default: throw new IllegalArgumentException();
    }
  }

  public int find() throws IllegalStateException {
    if (!stands) throw new IllegalStateException();
    int found = circuit.seek(spare.design.text, length);
    length = 0;
    return found;
  }

  public int signal(int s, int what)
      throws IllegalStateException, IndexOutOfBoundsException, IllegalArgumentException {
    if (!stands) throw new IllegalStateException();
    if (s < 0 || s >= circuit.signals) throw new IndexOutOfBoundsException();
    switch (what) {
      case 0: return circuit.widthOf(s);
      case 1: return circuit.sortOf(s);
      case 2: return circuit.placeOf(s);
      default: throw new IllegalArgumentException();
    }
  }

  public void reset() throws IllegalStateException {
    if (!stands) throw new IllegalStateException();
    machine.restart(circuit);
  }

  public void set(int s, int value)
      throws IllegalStateException, IndexOutOfBoundsException, IllegalArgumentException {
    if (!stands) throw new IllegalStateException();
    if (s < 0 || s >= circuit.signals) throw new IndexOutOfBoundsException();
    if (circuit.sortOf(s) != SORT_INPUT) throw new IllegalArgumentException();
    if (value < 0 || value > mask(circuit.widthOf(s))) throw new IllegalArgumentException();
    machine.put(s, value);
  }

  public int step() throws IllegalStateException {
    if (!stands) throw new IllegalStateException();
    return machine.advance(circuit);
  }

  public long value(int s) throws IllegalStateException, IndexOutOfBoundsException {
    if (!stands) throw new IllegalStateException();
    if (s < 0 || s >= circuit.signals) throw new IndexOutOfBoundsException();
    return machine.valueOf(circuit, s);
  }

  public int failing() throws IllegalStateException {
    if (!stands) throw new IllegalStateException();
    return machine.unheld(circuit);
  }

  private void append(int word) {
    byte[] tape = spare.design.text;
    for (int shift = 24; shift >= 0 && length < tape.length; shift -= 8) {
      tape[length] = (byte) (word >>> shift);
      length++;
    }
  }

  private static int capped(int sum, int more) {
    return Math.min(CAP, sum + Math.min(CAP, more));
  }

  /** All bits of a width, as a value. */
  private static long mask(int width) {
    return width >= WIDTH_LIMIT ? -1L : (1L << width) - 1L;
  }

  private static boolean isDigit(int b) {
    return b >= '0' && b <= '9';
  }

  private static boolean beginsWord(int b) {
    return b >= 'a' && b <= 'z' || b >= 'A' && b <= 'Z' || b == '_';
  }

  private static boolean continuesWord(int b) {
    return beginsWord(b) || isDigit(b) || b == '$';
  }

  /** The row of tokens, and the one at hand: all faults 1, 2 and 3 are met here. */
  private static final class Tokens {
    /** Of each token: its kind from bit 40 on, its place from bit 20 on, and below that its extra and 1. */
    private final long[] row = new long[TOKEN_ROOM];
    int size;
    int index;
    int kind;
    int place;
    int extra;
    int faultCode;
    int faultPlace;
    private int opens;

    void clear() {
      size = 0;
    }

    /** The extra: of a NAME its word, of a PLAIN its value, of a SIZED its literal. */
    void add(int newKind, int newPlace, int newExtra) {
      if (size >= row.length) return;
      row[size] = ((long) newKind << 40) | ((long) newPlace << 20) | (newExtra + 1);
      size++;
    }

    void start() {
      index = -1;
      opens = 0;
      faultCode = 0;
      faultPlace = NONE;
      take();
    }

    void take() {
      if (faultCode != 0 || index + 1 >= size) return;
      index++;
      kind = kindAt(index);
      place = (int) (row[index] >>> 20) & 0xfffff;
      extra = extraAt(index);
    }

    /** Behind a fault the token at hand is of a kind that nothing asks for. */
    private void stop(int code) {
      if (faultCode != 0) return;
      faultCode = code;
      faultPlace = place;
      kind = STOPPED;
    }

    private int misfit() {
      return kind == BAD ? 1 : 2;
    }

    void refuse() {
      stop(misfit());
    }

    boolean due(int wanted) {
      if (kind == wanted) return true;
      stop(misfit());
      return false;
    }

    void need(int wanted) {
      if (kind == wanted) take();
      else stop(misfit());
    }

    void open(int wanted) {
      if (kind != wanted) {
        stop(misfit());
      } else if (opens >= OPEN_LIMIT) {
        stop(3);
      } else {
        opens++;
        take();
      }
    }

    void shut(int wanted) {
      if (kind == wanted) take();
      else stop(misfit());
      opens--;
    }

    /** Of what ends without a token of its own. */
    void shutQuietly() {
      opens--;
    }

    int kindAt(int at) {
      return at >= 0 && at < size ? (int) (row[at] >>> 40) : NONE;
    }

    int extraAt(int at) {
      return at >= 0 && at < size ? ((int) row[at] & 0xfffff) - 1 : NONE;
    }
  }

  /** Makes tokens of the bytes; the row ends with BAD at a fault 1, else with AT_END. */
  private static final class Scanner {
    private static final int HEADS = 256;
    private static final long TENTH = 1844674407370955161L;

    private final Tokens tokens;
    private byte[] text = new byte[0];
    private int length;
    private Code code;
    private final int[] heads = new int[HEADS];
    private final int[] nexts = new int[WORD_ROOM];
    private final int[] wordStarts = new int[WORD_ROOM];
    private final int[] wordKinds = new int[WORD_ROOM];
    int words;

    Scanner(Tokens tokens) {
      this.tokens = tokens;
    }

    void scan(Design design) {
      text = design.text;
      length = Math.min(design.length, text.length);
      code = design.code;
      tokens.clear();
      Arrays.fill(heads, NONE);
      words = 0;
      int at = 0;
      boolean sound = true;
      while (sound && at < length) {
        int behind = skipped(at);
        if (behind == at) behind = token(at);
        sound = behind > at;
        if (sound) at = behind;
      }
      tokens.add(sound ? AT_END : BAD, at, NONE);
    }

    private int byteAt(int at) {
      return at >= 0 && at < length ? text[at] : NONE;
    }

    /** The place behind a blank or a comment; the same place if none begins there, NONE if it does not end. */
    private int skipped(int at) {
      int b = byteAt(at);
      if (b == 9 || b == 10 || b == 13 || b == 32) return at + 1;
      if (b != '/') return at;
      if (byteAt(at + 1) == '/') {
        int stop = at + 2;
        while (stop < length && text[stop] != 10) stop++;
        return stop;
      }
      if (byteAt(at + 1) != '*') return at;
      for (int i = at + 2; i + 1 < length; i++) {
        if (text[i] == '*' && text[i + 1] == '/') return i + 2;
      }
      return NONE;
    }

    /** The place behind the token that begins there, NONE if there is none. */
    private int token(int at) {
      int b = byteAt(at);
      if (beginsWord(b)) return word(at);
      if (isDigit(b)) return number(at);
      int kind = pair(b, byteAt(at + 1));
      if (kind != NONE) {
        tokens.add(kind, at, NONE);
        return at + 2;
      }
      if (b <= 0 || SIGNS.indexOf((char) b) < 0) return NONE;
      tokens.add(b, at, NONE);
      return at + 1;
    }

    private static int pair(int first, int second) {
      if (second == '=') {
        switch (first) {
          case '=': return SAME;
          case '!': return OTHER;
          case '<': return AT_MOST;
          case '>': return AT_LEAST;
          default: return NONE;
        }
      }
      if (first != second) return NONE;
      switch (first) {
        case '&': return AND_AND;
        case '|': return OR_OR;
        case '<': return LEFT;
        case '>': return RIGHT;
        default: return NONE;
      }
    }

    private int word(int at) {
      int stop = at;
      int hash = 0;
      while (stop < length && continuesWord(text[stop])) {
        hash = 31 * hash + text[stop];
        stop++;
      }
      int head = (hash ^ (hash >>> 8)) & (HEADS - 1);
      int word = known(head, at, stop);
      if (word == NONE) word = added(head, at, stop);
      if (word >= 0 && word < words) tokens.add(wordKinds[word], at, word);
      return stop;
    }

    private int known(int head, int from, int to) {
      int word = heads[head];
      for (int n = 0; n < words && word >= 0 && word < words; n++) {
        if (repeats(wordStarts[word], from, to)) return word;
        word = nexts[word];
      }
      return NONE;
    }

    private boolean repeats(int earlier, int from, int to) {
      for (int i = from; i < to; i++) {
        if (byteAt(earlier + i - from) != byteAt(i)) return false;
      }
      return !continuesWord(byteAt(earlier + to - from));
    }

    private int added(int head, int from, int to) {
      if (words >= WORD_ROOM) return NONE;
      wordStarts[words] = from;
      wordKinds[words] = kindOf(from, to);
      nexts[words] = heads[head];
      heads[head] = words;
      words++;
      return words - 1;
    }

    private int kindOf(int from, int to) {
      int kind = MODULE;
      int start = 0;
      for (int i = 0; i < KEYWORDS.length(); i++) {
        if (KEYWORDS.charAt(i) != ' ') continue;
        if (i - start == to - from && spells(start, from, to)) return kind;
        kind++;
        start = i + 1;
      }
      return NAME;
    }

    private boolean spells(int start, int from, int to) {
      for (int i = from; i < to; i++) {
        if (KEYWORDS.charAt(start + i - from) != byteAt(i)) return false;
      }
      return true;
    }

    private int number(int at) {
      int quote = NONE;
      int stop = at;
      while (stop < length && (continuesWord(text[stop]) || text[stop] == '\'' && quote == NONE)) {
        if (text[stop] == '\'') quote = stop;
        stop++;
      }
      if (quote != NONE) return sized(at, quote, stop) ? stop : NONE;
      int value = decimal(at, stop, PLAIN_LIMIT);
      if (value == NONE) return NONE;
      tokens.add(PLAIN, at, value);
      return stop;
    }

    /** The value of a row of digits, NONE if it is none or above the limit. */
    private int decimal(int from, int to, int limit) {
      int value = 0;
      for (int i = from; i < to; i++) {
        int digit = digitOf(byteAt(i));
        if (digit > 9) return NONE;
        value = Math.min(limit + 1, 10 * value + digit);
      }
      return value > limit ? NONE : value;
    }

    private boolean sized(int at, int quote, int stop) {
      int width = decimal(at, quote, WIDTH_LIMIT);
      int shift = shiftOf(byteAt(quote + 1));
      if (width < 1 || shift == NONE || quote + 2 >= stop) return false;
      int base = shift == 0 ? 10 : 1 << shift;
      long most = shift == 0 ? TENTH : -1L >>> shift;
      long value = 0;
      for (int i = quote + 2; i < stop; i++) {
        int digit = digitOf(byteAt(i));
        if (digit >= base || value < 0 || value > most) return false;
        if (shift == 0 && value == most && digit > 5) return false;
        value = value * base + digit;
      }
      if ((value & ~mask(width)) != 0) return false;
      tokens.add(SIZED, at, code.literal(width, value));
      return true;
    }

    /** By how many bits a digit of the base moves the ones before it; 0 of the base 10. */
    private static int shiftOf(int b) {
      switch (b) {
        case 'b': return 1;
        case 'o': return 3;
        case 'd': return 0;
        case 'h': return 4;
        default: return NONE;
      }
    }

    private static int digitOf(int b) {
      if (isDigit(b)) return b - '0';
      if (b >= 'a' && b <= 'f') return b - 'a' + 10;
      if (b >= 'A' && b <= 'F') return b - 'A' + 10;
      return 99;
    }
  }

  /**
   * Goes through the tokens by the grammar, one small move at a time: the open places stand in rows
   * of its own and not in calls, so that no text makes calls go deep. What is met is told to Meaning
   * and Checker in the order in which the document meets it.
   */
  private static final class Grammar {
    // Where it is.
    private static final int AT_MODULE = 0;
    private static final int BEHIND_MODULE = 1;
    private static final int IN_ITEMS = 2;
    private static final int AT_LINK = 3;
    private static final int AT_STATEMENT = 4;
    private static final int BEHIND_STATEMENT = 5;
    private static final int AT_OPERAND = 6;
    private static final int BEHIND_OPERAND = 7;
    private static final int BEHIND_EXP = 8;
    private static final int DONE = 9;

    /** Beside the tokens' kinds, which tell what else an exp or a statement may be in. */
    private static final int LINK = 200;
    private static final int ARM = 201;
    private static final int REPEAT = 202;

    private static final int UNARY_RANK = 11;

    private final Tokens tokens;
    private final Checker checker;
    private final Meaning meaning;
    private int state;
    private int purpose;
    private int signPlace;
    private int linkPlace;
    private int expPlace;
    private int expIndex;
    private final int[] contexts = new int[OPEN_LIMIT];
    private int depth;
    // The signs of an exp that wait for more, with their places; of { n { } } also n. Signs in a row
    // before an operand are held as one, so that the rows can be short: it has the number of the first
    // one's token in place of the place, and how many they are in place of n.
    private final int[] heldKinds = new int[STACK_ROOM];
    private final int[] heldPlaces = new int[STACK_ROOM];
    private final int[] heldTimes = new int[STACK_ROOM];
    private int held;

    Grammar(Tokens tokens, Checker checker, Meaning meaning) {
      this.tokens = tokens;
      this.checker = checker;
      this.meaning = meaning;
    }

    void parse(Design design, int words) {
      tokens.start();
      checker.start(design, words);
      meaning.start(design);
      held = 0;
      depth = 0;
      state = AT_MODULE;
      int bound = 8 * tokens.size + 8;
      for (int n = 0; n < bound && state != DONE && tokens.faultCode == 0; n++) {
        switch (state) {
          case AT_MODULE: moduleHead(); break;
          case BEHIND_MODULE: state = tokens.kind == AT_END ? DONE : AT_MODULE; break;
          case IN_ITEMS: item(); break;
          case AT_LINK: link(); break;
          case AT_STATEMENT: statement(); break;
          case BEHIND_STATEMENT: behindStatement(); break;
          case AT_OPERAND: operand(); break;
          case BEHIND_OPERAND: behindOperand(); break;
          default: behindExp(); break;
        }
      }
    }

    private void moduleHead() {
      tokens.need(MODULE);
      if (tokens.due(NAME)) meaning.module(tokens.extra, tokens.place);
      tokens.take();
      tokens.open('(');
      if (tokens.kind != ')') {
        port();
        for (int n = 0; n < tokens.size && tokens.kind == ','; n++) {
          tokens.take();
          port();
        }
      }
      tokens.shut(')');
      tokens.need(';');
      meaning.portsEnd();
      state = IN_ITEMS;
    }

    private void port() {
      if (tokens.kind == INPUT) {
        tokens.take();
        declaration(SORT_INPUT);
        return;
      }
      tokens.need(OUTPUT);
      if (tokens.kind == REG) {
        tokens.take();
        declaration(SORT_REGISTER);
      } else {
        declaration(SORT_DRIVEN);
      }
    }

    private void declaration(int sort) {
      if (tokens.kind == '[') {
        int place = tokens.place;
        tokens.open('[');
        int high = tokens.extra;
        tokens.need(PLAIN);
        tokens.need(':');
        int low = tokens.extra;
        tokens.need(PLAIN);
        tokens.shut(']');
        meaning.range(place, high, low);
      }
      if (tokens.due(NAME)) meaning.declare(sort, tokens.extra, tokens.place);
      tokens.take();
      if (sort != SORT_REGISTER || tokens.kind != '=') return;
      tokens.take();
      if (tokens.due(SIZED)) meaning.beginsWith(tokens.extra, tokens.place);
      tokens.take();
    }

    private void item() {
      int kind = tokens.kind;
      switch (kind) {
        case WIRE:
        case REG:
          tokens.take();
          declaration(kind == REG ? SORT_REGISTER : SORT_DRIVEN);
          tokens.need(';');
          break;
        case ASSIGN: assignment(); break;
        case ALWAYS: always(); break;
        case ASSERT:
          tokens.take();
          tokens.open('(');
          expFor(ASSERT);
          break;
        case NAME: instance(); break;
        case ENDMODULE:
          meaning.moduleEnd();
          tokens.take();
          state = BEHIND_MODULE;
          break;
        default: tokens.refuse(); break;
      }
    }

    private void assignment() {
      tokens.take();
      if (tokens.due(NAME)) meaning.assignTo(tokens.extra, tokens.place);
      tokens.take();
      signPlace = tokens.place;
      tokens.need('=');
      expFor(ASSIGN);
    }

    private void always() {
      tokens.take();
      tokens.need('@');
      tokens.open('(');
      tokens.need(POSEDGE);
      tokens.need(CLOCK);
      tokens.shut(')');
      meaning.always();
      state = AT_STATEMENT;
    }

    private void instance() {
      meaning.instance(tokens.extra, tokens.place);
      tokens.take();
      if (tokens.due(NAME)) meaning.instanceName(tokens.extra, tokens.place);
      tokens.take();
      tokens.open('(');
      if (tokens.kind == ')') instanceEnd();
      else state = AT_LINK;
    }

    private void instanceEnd() {
      tokens.shut(')');
      tokens.need(';');
      meaning.instanceEnd();
      state = IN_ITEMS;
    }

    private void link() {
      linkPlace = tokens.place;
      tokens.need('.');
      if (tokens.due(NAME)) meaning.linkTo(tokens.extra, tokens.place);
      tokens.take();
      tokens.open('(');
      expFor(LINK);
    }

    private void linkEnd() {
      boolean alone = tokens.index == expIndex + 1 && tokens.kindAt(expIndex) == NAME;
      tokens.shut(')');
      meaning.linked(linkPlace, expPlace, alone ? tokens.extraAt(expIndex) : NONE);
      if (tokens.kind == ',') {
        tokens.take();
        state = AT_LINK;
      } else {
        instanceEnd();
      }
    }

    private void statement() {
      switch (tokens.kind) {
        case BEGIN:
          tokens.open(BEGIN);
          enter(BEGIN);
          state = BEHIND_STATEMENT;
          break;
        case IF:
          tokens.open(IF);
          tokens.open('(');
          expFor(IF);
          break;
        case CASE:
          tokens.open(CASE);
          tokens.open('(');
          expFor(CASE);
          break;
        case NAME: store(); break;
        default: tokens.refuse(); break;
      }
    }

    private void store() {
      meaning.storeTo(tokens.extra, tokens.place);
      tokens.take();
      if (tokens.kind == '[') {
        int place = tokens.place;
        tokens.open('[');
        meaning.storePart(part(), place);
      }
      signPlace = tokens.place;
      tokens.need(AT_MOST);
      expFor(AT_MOST);
    }

    /** Behind the [ of a part: its two numbers, the high one in the upper half. */
    private int part() {
      int high = tokens.extra;
      tokens.need(PLAIN);
      int low = high;
      if (tokens.kind == ':') {
        tokens.take();
        low = tokens.extra;
        tokens.need(PLAIN);
      }
      tokens.shut(']');
      return (high << 16) | (low & 0xffff);
    }

    private void enter(int context) {
      if (depth >= contexts.length) return;
      depth++;
      goOnIn(context);
    }

    private void goOnIn(int context) {
      if (depth > 0) contexts[depth - 1] = context;
    }

    private void behindStatement() {
      if (depth == 0) {
        meaning.alwaysEnd();
        state = IN_ITEMS;
        return;
      }
      switch (contexts[depth - 1]) {
        case BEGIN:
          if (tokens.kind == END) {
            tokens.shut(END);
            depth--;
          } else {
            state = AT_STATEMENT;
          }
          break;
        case IF:
          if (tokens.kind == ELSE) otherwise();
          else ifEnd();
          break;
        case ELSE: ifEnd(); break;
        case CASE: arm(); break;
        case ARM:
          meaning.armEnd();
          goOnIn(CASE);
          break;
        default: caseEnd(); break;
      }
    }

    private void otherwise() {
      tokens.take();
      meaning.otherwise();
      goOnIn(ELSE);
      state = AT_STATEMENT;
    }

    private void ifEnd() {
      tokens.shutQuietly();
      meaning.ifEnd();
      depth--;
    }

    private void arm() {
      if (tokens.kind == SIZED) {
        meaning.label(tokens.extra, tokens.place);
        tokens.take();
        for (int n = 0; n < tokens.size && tokens.kind == ','; n++) {
          tokens.take();
          if (tokens.due(SIZED)) meaning.label(tokens.extra, tokens.place);
          tokens.take();
        }
        tokens.need(':');
        meaning.labelsEnd();
        goOnIn(ARM);
        state = AT_STATEMENT;
      } else if (tokens.kind == DEFAULT) {
        tokens.take();
        tokens.need(':');
        goOnIn(DEFAULT);
        state = AT_STATEMENT;
      } else {
        caseEnd();
      }
    }

    private void caseEnd() {
      tokens.shut(ENDCASE);
      meaning.caseEnd();
      depth--;
    }

    private void expFor(int whatFor) {
      purpose = whatFor;
      expPlace = tokens.place;
      expIndex = tokens.index;
      held = 0;
      checker.expBegins();
      state = AT_OPERAND;
    }

    private void behindExp() {
      switch (purpose) {
        case ASSIGN:
          meaning.assigned(signPlace);
          tokens.need(';');
          state = IN_ITEMS;
          break;
        case AT_MOST:
          meaning.stored(signPlace);
          tokens.need(';');
          state = BEHIND_STATEMENT;
          break;
        case IF:
          tokens.shut(')');
          meaning.condition();
          enter(IF);
          state = AT_STATEMENT;
          break;
        case CASE:
          tokens.shut(')');
          meaning.choice();
          enter(CASE);
          state = BEHIND_STATEMENT;
          break;
        case ASSERT:
          tokens.shut(')');
          tokens.need(';');
          meaning.asserted();
          state = IN_ITEMS;
          break;
        default: linkEnd(); break;
      }
    }

    private void hold(int kind, int place, int times) {
      if (held >= STACK_ROOM) return;
      heldKinds[held] = kind;
      heldPlaces[held] = place;
      heldTimes[held] = times;
      held++;
    }

    private void operand() {
      switch (tokens.kind) {
        case '~':
        case '!':
        case '-':
        case '&':
        case '|':
        case '^': signsBefore(); break;
        case '(':
          hold('(', tokens.place, 0);
          tokens.open('(');
          break;
        case '{': brace(); break;
        case SIZED:
          checker.literal(tokens.extra);
          tokens.take();
          state = BEHIND_OPERAND;
          break;
        case NAME: named(); break;
        default: tokens.refuse(); break;
      }
    }

    private void signsBefore() {
      int first = tokens.index;
      for (int n = 0; n < tokens.size && isUnary(tokens.kind); n++) tokens.take();
      hold(UNARY, first, tokens.index - first);
    }

    private static boolean isUnary(int kind) {
      return kind == '~' || kind == '!' || kind == '-' || kind == '&' || kind == '|' || kind == '^';
    }

    private void brace() {
      int place = tokens.place;
      tokens.open('{');
      if (tokens.kind == PLAIN) {
        hold(REPEAT, place, tokens.extra);
        tokens.take();
        tokens.open('{');
      } else {
        hold('{', place, 0);
      }
    }

    private void named() {
      checker.name(tokens.extra, tokens.place);
      tokens.take();
      int place = tokens.place;
      if (tokens.kind != '[') {
        state = BEHIND_OPERAND;
        return;
      }
      tokens.open('[');
      if (tokens.kind == PLAIN) {
        checker.part(part(), place);
        state = BEHIND_OPERAND;
      } else {
        hold('[', place, 0);
      }
    }

    private void behindOperand() {
      int rank = rankOf(tokens.kind);
      if (rank > 0) {
        apply(rank);
        hold(tokens.kind, tokens.place, 0);
        tokens.take();
        state = AT_OPERAND;
        return;
      }
      apply(1);
      if (tokens.kind == '?') {
        hold('?', tokens.place, 0);
        tokens.open('?');
        state = AT_OPERAND;
        return;
      }
      while (held > 0 && heldKinds[held - 1] == ':') {
        held--;
        tokens.shutQuietly();
        checker.choose(heldPlaces[held]);
      }
      if (held == 0) state = BEHIND_EXP;
      else close(held - 1);
    }

    /** Tells the operators that bind at least so much and wait for nothing more. */
    private void apply(int least) {
      while (held > 0 && rankOf(heldKinds[held - 1]) >= least) {
        held--;
        if (heldKinds[held] != UNARY) {
          checker.binary(heldKinds[held], heldPlaces[held]);
          continue;
        }
        for (int n = heldTimes[held] - 1; n >= 0; n--) checker.unary(tokens.kindAt(heldPlaces[held] + n));
      }
    }

    private void close(int innermost) {
      switch (heldKinds[innermost]) {
        case '?':
          tokens.need(':');
          heldKinds[innermost] = ':';
          state = AT_OPERAND;
          break;
        case '(':
          tokens.shut(')');
          held--;
          break;
        case '[':
          tokens.shut(']');
          checker.index();
          held--;
          break;
        case REPEAT:
          tokens.shut('}');
          tokens.shut('}');
          checker.repeat(heldTimes[innermost], heldPlaces[innermost]);
          held--;
          break;
        case ',':
          checker.join();
          closeBrace(innermost);
          break;
        default: closeBrace(innermost); break;
      }
    }

    private void closeBrace(int innermost) {
      if (tokens.kind == ',') {
        tokens.take();
        heldKinds[innermost] = ',';
        state = AT_OPERAND;
      } else {
        tokens.shut('}');
        checker.braces(heldPlaces[innermost]);
        held--;
      }
    }

    private static int rankOf(int kind) {
      switch (kind) {
        case OR_OR: return 1;
        case AND_AND: return 2;
        case '|': return 3;
        case '^': return 4;
        case '&': return 5;
        case SAME:
        case OTHER: return 6;
        case '<':
        case AT_MOST:
        case '>':
        case AT_LEAST: return 7;
        case LEFT:
        case RIGHT: return 8;
        case '+':
        case '-': return 9;
        case '*': return 10;
        case UNARY: return UNARY_RANK;
        default: return 0;
      }
    }
  }

  /** What names stand for and how wide exps are; makes their code and sums up the cost. */
  private static final class Checker {
    /** What a declared name is that is an instance; other names are their declarations' numbers. */
    static final int INSTANCE = -2;

    private final Tokens tokens;
    private Parts parts;
    private Code code;
    private int module;
    private int firstDecl;
    // Of each word: the module that it names, what else it names, and in which module that is.
    private final int[] modules = new int[WORD_ROOM];
    private final int[] decls = new int[WORD_ROOM];
    private final int[] stamps = new int[WORD_ROOM];
    /** Of each declaration: its word. */
    private final int[] names = new int[PART_ROOM];
    private final int[] widths = new int[STACK_ROOM];
    private int top;
    int expStart;
    int cost;
    int faultCode;
    int faultPlace;

    Checker(Tokens tokens) {
      this.tokens = tokens;
    }

    void start(Design design, int words) {
      parts = design.parts;
      code = design.code;
      for (int word = 0; word < words && word < WORD_ROOM; word++) {
        modules[word] = NONE;
        stamps[word] = NONE;
      }
      module = NONE;
      faultCode = 0;
      faultPlace = NONE;
      top = 0;
    }

    void moduleBegins(int word) {
      module++;
      if (word >= 0 && word < modules.length) modules[word] = module;
      firstDecl = parts.declCount;
      cost = 0;
    }

    /** Behind a fault nothing more is looked at. */
    boolean isOff() {
      return faultCode != 0 || tokens.faultCode != 0;
    }

    void refuse(int newCode, int place) {
      if (faultCode != 0) return;
      faultCode = newCode;
      faultPlace = place;
    }

    int moduleOf(int word) {
      return word >= 0 && word < modules.length ? modules[word] : NONE;
    }

    /** The declaration of a name of this module, INSTANCE or NONE. */
    int meantBy(int word) {
      if (word < 0 || word >= WORD_ROOM) return NONE;
      return stamps[word] == module ? decls[word] : NONE;
    }

    void mean(int word, int decl) {
      if (word < 0 || word >= WORD_ROOM) return;
      stamps[word] = module;
      decls[word] = decl;
      if (decl >= 0 && decl < names.length) names[decl] = word;
    }

    /** The declaration of that name among these, or NONE. */
    int declCalled(int word, int from, int to) {
      for (int decl = Math.max(from, 0); decl < to && decl < names.length; decl++) {
        if (names[decl] == word) return decl;
      }
      return NONE;
    }

    int sortOf(int decl) {
      return decl >= 0 && decl < parts.declCount ? parts.sorts[decl] : NONE;
    }

    /** Its number among those of its module. */
    int localOf(int decl) {
      return decl - firstDecl;
    }

    void spend(int amount) {
      cost = capped(cost, amount);
    }

    void expBegins() {
      if (isOff()) return;
      top = 0;
      expStart = code.size;
    }

    /** The width of the exp that is told wholly. */
    int expWidth() {
      return pop();
    }

    private void push(int width) {
      if (top >= widths.length) return;
      widths[top] = width;
      top++;
    }

    private int pop() {
      if (top == 0) return 1;
      top--;
      return widths[top];
    }

    void literal(int literal) {
      if (isOff()) return;
      push(code.widthOf(literal));
      code.emit(LITERAL, literal);
    }

    void name(int word, int place) {
      if (isOff()) return;
      int decl = meantBy(word);
      if (sortOf(decl) == NONE) {
        refuse(22, place);
        return;
      }
      push(parts.widths[decl]);
      code.emit(LOAD, localOf(decl));
    }

    static int lowOf(int part) {
      return part & 0xffff;
    }

    /** Of a part within a name of that width; NONE if it does not lie there. */
    static int partWidth(int part, int width) {
      int high = part >>> 16;
      int low = part & 0xffff;
      return high < low || high >= width ? NONE : high - low + 1;
    }

    void part(int part, int place) {
      if (isOff()) return;
      int width = partWidth(part, pop());
      if (width == NONE) {
        refuse(30, place);
        return;
      }
      push(width);
      code.emit(UNARY + '[', (lowOf(part) << 8) | width);
    }

    void unary(int op) {
      if (isOff()) return;
      int width = pop();
      spend(width);
      push(op == '~' || op == '-' ? width : 1);
      code.emit(UNARY + op, width);
    }

    void binary(int op, int place) {
      if (isOff()) return;
      int right = pop();
      int left = pop();
      boolean shifts = op == LEFT || op == RIGHT;
      boolean free = shifts || op == AND_AND || op == OR_OR;
      if (!free && left != right) {
        refuse(30, place);
        return;
      }
      int widest = Math.max(left, right);
      if (shifts) spend(3 * left + right);
      else spend(op == '*' ? widest * widest : widest);
      push(asks(op) ? 1 : left);
      code.emit(op, left);
    }

    /** Whether its answer is a yes or a no. */
    private static boolean asks(int op) {
      switch (op) {
        case AND_AND:
        case OR_OR:
        case SAME:
        case OTHER:
        case '<':
        case AT_MOST:
        case '>':
        case AT_LEAST: return true;
        default: return false;
      }
    }

    void index() {
      if (isOff()) return;
      int widest = Math.max(pop(), pop());
      spend(widest);
      push(1);
      code.emit('[', widest);
    }

    void choose(int place) {
      if (isOff()) return;
      int second = pop();
      int first = pop();
      if (first != second) {
        refuse(30, place);
        return;
      }
      spend(Math.max(pop(), first));
      push(first);
      code.emit(CHOOSE, first);
    }

    /** Sums that are too wide go on here: they are a fault only when all operands have been met. */
    void join() {
      if (isOff()) return;
      int right = pop();
      push(capped(pop(), right));
      code.emit(',', right);
    }

    void braces(int place) {
      if (isOff()) return;
      int width = pop();
      if (width > WIDTH_LIMIT) refuse(30, place);
      push(width);
    }

    void repeat(int times, int place) {
      if (isOff()) return;
      int width = pop();
      int product = width * times;
      if (product < 1 || product > WIDTH_LIMIT) {
        refuse(30, place);
        return;
      }
      push(product);
      code.emit(UNARY + '{', (times << 8) | width);
    }
  }

  /** What modules, items and statements say. */
  private static final class Meaning {
    private final Checker checker;
    private Design design;
    private Parts parts;
    private Code code;
    private int rangeWidth;
    private int target;
    private int targetLow;
    private int targetWidth;
    private int port;
    private int alwaysNumber;
    private int alwaysStart;
    private boolean stores;
    // Of each if and case that is open: the jump that has no aim yet.
    private final int[] jumps = new int[OPEN_LIMIT];
    // Of each case also: the jumps to its end, those to the arm that comes (each the last one of a
    // chain that goes on in its arg), and its width.
    private final int[] exits = new int[OPEN_LIMIT];
    private final int[] matches = new int[OPEN_LIMIT];
    private final int[] widths = new int[OPEN_LIMIT];
    private int depth;

    Meaning(Checker checker) {
      this.checker = checker;
    }

    void start(Design newDesign) {
      design = newDesign;
      parts = newDesign.parts;
      code = newDesign.code;
      rangeWidth = 1;
      alwaysNumber = 0;
      depth = 0;
    }

    void module(int word, int place) {
      if (checker.isOff()) return;
      if (checker.moduleOf(word) != NONE) {
        checker.refuse(20, place);
        return;
      }
      checker.moduleBegins(word);
      design.addModule(place);
    }

    void portsEnd() {
      if (checker.isOff()) return;
      design.setPorts();
    }

    void range(int place, int high, int low) {
      if (checker.isOff()) return;
      if (low != 0 || high < 0 || high >= WIDTH_LIMIT) checker.refuse(30, place);
      rangeWidth = high + 1;
    }

    void declare(int sort, int word, int place) {
      if (checker.isOff()) return;
      if (checker.meantBy(word) != NONE) {
        checker.refuse(21, place);
        return;
      }
      checker.mean(word, parts.declCount);
      parts.addDecl(sort, place, rangeWidth);
      rangeWidth = 1;
    }

    void beginsWith(int literal, int place) {
      if (checker.isOff()) return;
      int decl = parts.declCount - 1;
      if (decl < 0) return;
      if (code.widthOf(literal) != parts.widths[decl]) checker.refuse(30, place);
      parts.firsts[decl] = code.valueOf(literal);
    }

    void assignTo(int word, int place) {
      if (checker.isOff()) return;
      int decl = checker.meantBy(word);
      if (checker.sortOf(decl) != SORT_DRIVEN) {
        checker.refuse(22, place);
      } else if (parts.starts[decl] != NONE) {
        checker.refuse(31, place);
      } else {
        parts.starts[decl] = code.size;
        target = decl;
      }
    }

    void assigned(int place) {
      if (checker.isOff() || checker.sortOf(target) == NONE) return;
      if (checker.expWidth() != parts.widths[target]) checker.refuse(30, place);
      parts.stops[target] = code.size;
    }

    void asserted() {
      if (checker.isOff()) return;
      checker.spend(checker.expWidth());
      design.addPiece(true, checker.expStart);
    }

    void instance(int word, int place) {
      if (checker.isOff()) return;
      int module = checker.moduleOf(word);
      if (module == NONE || module >= design.moduleCount - 1) checker.refuse(22, place);
      else parts.addChild(module);
    }

    void instanceName(int word, int place) {
      if (checker.isOff()) return;
      int child = parts.childCount - 1;
      if (child < 0) return;
      parts.childPlaces[child] = place;
      if (checker.meantBy(word) != NONE) checker.refuse(21, place);
      else checker.mean(word, Checker.INSTANCE);
    }

    void linkTo(int word, int place) {
      if (checker.isOff()) return;
      int child = parts.childCount - 1;
      if (child < 0) return;
      int module = parts.childModules[child];
      int first = design.firstDecl(module);
      port = checker.declCalled(word, first, first + design.portCount(module));
      if (port == NONE || parts.isLinked(child, port - first)) checker.refuse(23, place);
      else parts.addLink(port - first);
    }

    void linked(int place, int expPlace, int word) {
      if (checker.isOff()) return;
      int width = checker.expWidth();
      int link = parts.linkCount - 1;
      int sort = checker.sortOf(port);
      if (link < 0 || sort == NONE) return;
      boolean out = sort != SORT_INPUT;
      int decl = checker.meantBy(word);
      if (out && checker.sortOf(decl) != SORT_DRIVEN) {
        checker.refuse(25, expPlace);
      } else if (width != parts.widths[port]) {
        checker.refuse(30, place);
      } else if (!out) {
        parts.linkStarts[link] = checker.expStart;
        parts.linkStops[link] = code.size;
      } else if (parts.starts[decl] != NONE) {
        checker.refuse(31, expPlace);
      } else {
        code.size = checker.expStart;
        parts.starts[decl] = code.size;
        parts.stops[decl] = code.size;
        parts.linkStarts[link] = checker.localOf(decl);
      }
    }

    void instanceEnd() {
      if (checker.isOff()) return;
      int child = parts.childCount - 1;
      if (child < 0) return;
      int links = parts.linkCount - parts.firstLinks[child];
      if (links != design.portCount(parts.childModules[child])) checker.refuse(24, parts.childPlaces[child]);
    }

    void moduleEnd() {
      if (checker.isOff()) return;
      for (int decl = design.firstDecl(design.moduleCount - 1); decl < parts.declCount; decl++) {
        if (parts.sorts[decl] == SORT_DRIVEN && parts.starts[decl] == NONE) {
          checker.refuse(33, parts.places[decl]);
          return;
        }
      }
      design.sumUp(checker.cost);
    }

    void always() {
      if (checker.isOff()) return;
      alwaysNumber++;
      alwaysStart = code.size;
      stores = false;
    }

    /** What sets nothing is not kept. */
    void alwaysEnd() {
      if (checker.isOff()) return;
      if (stores) design.addPiece(false, alwaysStart);
      else code.size = alwaysStart;
    }

    void storeTo(int word, int place) {
      if (checker.isOff()) return;
      int decl = checker.meantBy(word);
      if (checker.sortOf(decl) != SORT_REGISTER) {
        checker.refuse(22, place);
      } else if (parts.starts[decl] != NONE && parts.starts[decl] != alwaysNumber) {
        checker.refuse(32, place);
      } else {
        parts.starts[decl] = alwaysNumber;
        target = decl;
        targetLow = 0;
        targetWidth = parts.widths[decl];
      }
    }

    void storePart(int part, int place) {
      if (checker.isOff()) return;
      targetWidth = Checker.partWidth(part, targetWidth);
      targetLow = Checker.lowOf(part);
      if (targetWidth == NONE) checker.refuse(30, place);
    }

    void stored(int place) {
      if (checker.isOff()) return;
      if (checker.expWidth() != targetWidth) checker.refuse(30, place);
      checker.spend(targetWidth);
      code.emit(STORE, (checker.localOf(target) << 14) | (targetLow << 7) | targetWidth);
      stores = true;
    }

    void condition() {
      if (checker.isOff() || depth >= OPEN_LIMIT) return;
      checker.spend(checker.expWidth());
      jumps[depth] = code.emit(UNLESS, NONE);
      depth++;
    }

    void otherwise() {
      if (checker.isOff() || depth == 0) return;
      int jump = code.emit(JUMP, NONE);
      code.aim(jumps[depth - 1]);
      jumps[depth - 1] = jump;
    }

    void ifEnd() {
      if (checker.isOff() || depth == 0) return;
      depth--;
      code.aim(jumps[depth]);
    }

    /** What is asked stays on the stack until the case ends. */
    void choice() {
      if (checker.isOff() || depth >= OPEN_LIMIT) return;
      widths[depth] = checker.expWidth();
      jumps[depth] = NONE;
      exits[depth] = NONE;
      matches[depth] = NONE;
      depth++;
    }

    void label(int literal, int place) {
      if (checker.isOff() || depth == 0) return;
      int width = widths[depth - 1];
      if (code.widthOf(literal) != width) checker.refuse(30, place);
      checker.spend(width);
      code.emit(LITERAL, literal);
      matches[depth - 1] = code.emit(MATCH, matches[depth - 1]);
    }

    void labelsEnd() {
      if (checker.isOff() || depth == 0) return;
      jumps[depth - 1] = code.emit(JUMP, NONE);
      code.aimAll(matches[depth - 1]);
      matches[depth - 1] = NONE;
    }

    void armEnd() {
      if (checker.isOff() || depth == 0) return;
      exits[depth - 1] = code.emit(JUMP, exits[depth - 1]);
      code.aim(jumps[depth - 1]);
      jumps[depth - 1] = NONE;
    }

    void caseEnd() {
      if (checker.isOff() || depth == 0) return;
      depth--;
      code.aimAll(exits[depth]);
      code.emit(DROP, 0);
    }
  }

  /** A text and its modules, each with where its declarations, instances and pieces of code begin. */
  private static final class Design {
    final Parts parts = new Parts();
    final Code code = new Code();
    final byte[] text = new byte[TAPE_LIMIT];
    int length;
    int moduleCount;
    int inputBits;
    private final int[] places = new int[MODULE_ROOM];
    private final int[] firstDecls = new int[MODULE_ROOM];
    private final int[] portCounts = new int[MODULE_ROOM];
    private final int[] firstChildren = new int[MODULE_ROOM];
    private final int[] firstPieces = new int[MODULE_ROOM];
    private final int[][] sums = new int[SUMS][MODULE_ROOM];
    private int pieceCount;
    final int[] pieceStarts = new int[PIECE_ROOM];
    final int[] pieceStops = new int[PIECE_ROOM];
    /** 1 of an assert, 0 of an always. */
    final int[] pieceAsserts = new int[PIECE_ROOM];

    /** The text stays: it is the tape that is to be read. */
    void clear(int newLength) {
      length = Math.min(newLength, text.length);
      moduleCount = 0;
      pieceCount = 0;
      inputBits = 0;
      parts.clear();
      code.clear();
    }

    void addModule(int place) {
      if (moduleCount >= MODULE_ROOM) return;
      places[moduleCount] = place;
      firstDecls[moduleCount] = parts.declCount;
      portCounts[moduleCount] = 0;
      firstChildren[moduleCount] = parts.childCount;
      firstPieces[moduleCount] = pieceCount;
      moduleCount++;
    }

    void setPorts() {
      if (moduleCount == 0) return;
      portCounts[moduleCount - 1] = parts.declCount - firstDecls[moduleCount - 1];
    }

    /** A piece of code from there to the code's end. */
    void addPiece(boolean isAssert, int start) {
      if (pieceCount >= PIECE_ROOM) return;
      pieceStarts[pieceCount] = start;
      pieceStops[pieceCount] = code.size;
      pieceAsserts[pieceCount] = isAssert ? 1 : 0;
      pieceCount++;
    }

    private boolean isModule(int module) {
      return module >= 0 && module < moduleCount;
    }

    int portCount(int module) {
      return isModule(module) ? portCounts[module] : 0;
    }

    int firstDecl(int module) {
      return isModule(module) ? firstDecls[module] : parts.declCount;
    }

    int firstChild(int module) {
      return isModule(module) ? firstChildren[module] : parts.childCount;
    }

    int firstPiece(int module) {
      return isModule(module) ? firstPieces[module] : pieceCount;
    }

    int sumOf(int what, int module) {
      return isModule(module) ? sums[what][module] : 0;
    }

    int sumOfTop(int what) {
      return sumOf(what, moduleCount - 1);
    }

    int topPlace() {
      return moduleCount > 0 ? places[moduleCount - 1] : NONE;
    }

    /** The sums of the latest module: its own and those of the instances in it. */
    void sumUp(int cost) {
      int module = moduleCount - 1;
      if (module < 0) return;
      int bits = 0;
      for (int decl = firstDecls[module]; decl < parts.declCount; decl++) {
        if (parts.sorts[decl] == SORT_REGISTER) bits = capped(bits, parts.widths[decl]);
      }
      int asserts = 0;
      for (int piece = firstPieces[module]; piece < pieceCount; piece++) asserts += pieceAsserts[piece];
      sums[INSTANCES][module] = 1;
      sums[SIGNALS][module] = parts.declCount - firstDecls[module];
      sums[REGISTER_BITS][module] = bits;
      sums[ASSERTS][module] = asserts;
      sums[COST][module] = cost;
      for (int child = firstChildren[module]; child < parts.childCount; child++) {
        int inside = parts.childModules[child];
        for (int i = 0; i < SUMS; i++) sums[i][module] = capped(sums[i][module], sumOf(i, inside));
      }
    }

    /** The code of the first limit that the top is above, or 0. */
    int excess() {
      int top = moduleCount - 1;
      inputBits = 0;
      for (int decl = firstDecl(top); decl < parts.declCount; decl++) {
        if (parts.sorts[decl] == SORT_INPUT) inputBits = capped(inputBits, parts.widths[decl]);
      }
      int bits = sumOf(REGISTER_BITS, top);
      int cost = sumOf(COST, top);
      if (sumOf(INSTANCES, top) - 1 > INSTANCE_LIMIT) return 40;
      if (sumOf(SIGNALS, top) > SIGNAL_LIMIT) return 41;
      if (bits > REGISTER_LIMIT) return 42;
      if (inputBits > INPUT_LIMIT) return 43;
      if (cost > COST_LIMIT) return 44;
      return (1L << (bits + inputBits)) * Math.max(1, cost) > WORK_LIMIT ? 46 : 0;
    }

    /** Whether the NAME at that place of the text is that part of the other bytes. */
    boolean isCalled(int place, byte[] name, int from, int to) {
      int size = to - from;
      if (place < 0 || from < 0 || to > name.length || place + size > length) return false;
      for (int i = 0; i < size; i++) {
        if (name[from + i] != text[place + i] || !continuesWord(name[from + i])) return false;
      }
      return place + size >= length || !continuesWord(text[place + size]);
    }
  }

  /** All declared ports, wires and registers, and all instances with their links, as they are told. */
  private static final class Parts {
    int declCount;
    final int[] places = new int[PART_ROOM];
    final int[] widths = new int[PART_ROOM];
    final int[] sorts = new int[PART_ROOM];
    final long[] firsts = new long[PART_ROOM];
    /**
     * The code that drives it; NONE while nothing does, and an empty row if a link does. Of a
     * register the start is the number of the always that sets it, or NONE.
     */
    final int[] starts = new int[PART_ROOM];
    final int[] stops = new int[PART_ROOM];

    int childCount;
    final int[] childModules = new int[PART_ROOM];
    final int[] childPlaces = new int[PART_ROOM];
    final int[] firstLinks = new int[PART_ROOM];

    int linkCount;
    final int[] linkPorts = new int[PART_ROOM];
    /** Of an input the link's code; of an output the driven one's number in its module. */
    final int[] linkStarts = new int[PART_ROOM];
    final int[] linkStops = new int[PART_ROOM];

    void clear() {
      declCount = 0;
      childCount = 0;
      linkCount = 0;
    }

    void addDecl(int sort, int place, int width) {
      if (declCount >= PART_ROOM) return;
      sorts[declCount] = sort;
      places[declCount] = place;
      widths[declCount] = width;
      firsts[declCount] = 0;
      starts[declCount] = NONE;
      stops[declCount] = NONE;
      declCount++;
    }

    void addChild(int module) {
      if (childCount >= PART_ROOM) return;
      childModules[childCount] = module;
      childPlaces[childCount] = NONE;
      firstLinks[childCount] = linkCount;
      childCount++;
    }

    void addLink(int port) {
      if (linkCount >= PART_ROOM) return;
      linkPorts[linkCount] = port;
      linkStarts[linkCount] = NONE;
      linkStops[linkCount] = NONE;
      linkCount++;
    }

    int linksEnd(int child) {
      return child + 1 < childCount ? firstLinks[child + 1] : linkCount;
    }

    /** Whether a link of that instance, the latest one, already has that port. */
    boolean isLinked(int child, int port) {
      for (int link = firstLinks[child]; link < linkCount; link++) {
        if (linkPorts[link] == port) return true;
      }
      return false;
    }
  }

  /** The code of all exps and statements, operands before what is done with them; jumps go forward. */
  private static final class Code {
    private static final long LOWER_HALF = 0xffffffffL;

    /** Each op in the upper half, with its arg in the lower one. */
    private final long[] row = new long[CODE_ROOM];
    int size;
    private final int[] literalWidths = new int[LITERAL_ROOM];
    private final long[] literals = new long[LITERAL_ROOM];
    private int literalCount;

    void clear() {
      size = 0;
      literalCount = 0;
    }

    int literal(int width, long value) {
      if (literalCount >= LITERAL_ROOM) return NONE;
      literalWidths[literalCount] = width;
      literals[literalCount] = value;
      literalCount++;
      return literalCount - 1;
    }

    int widthOf(int literal) {
      return literal >= 0 && literal < literalCount ? literalWidths[literal] : 1;
    }

    long valueOf(int literal) {
      return literal >= 0 && literal < literalCount ? literals[literal] : 0;
    }

    int emit(int op, int arg) {
      if (size >= CODE_ROOM) return NONE;
      row[size] = ((long) op << 32) | (arg & LOWER_HALF);
      size++;
      return size - 1;
    }

    int opAt(int at) {
      return at >= 0 && at < size ? (int) (row[at] >>> 32) : NONE;
    }

    int argAt(int at) {
      return at >= 0 && at < size ? (int) row[at] : NONE;
    }

    /** Makes a jump go to the code's end. */
    void aim(int jump) {
      if (jump >= 0 && jump < size) row[jump] = (row[jump] & ~LOWER_HALF) | size;
    }

    /** The same for a chain of jumps, each of which has the one before it as its arg. */
    void aimAll(int last) {
      int jump = last;
      for (int n = 0; n < size && jump >= 0 && jump < size; n++) {
        int before = argAt(jump);
        aim(jump);
        jump = before;
      }
    }
  }

  /** The instances and signals of a design's top, by their numbers. */
  private static final class Circuit {
    final Design design = new Design();
    int instances;
    int signals;
    int[] bases = new int[INSTANCE_LIMIT + 1];
    int[] modules = new int[INSTANCE_LIMIT + 1];
    private final int[] parents = new int[INSTANCE_LIMIT + 1];
    private final int[] children = new int[INSTANCE_LIMIT + 1];
    private final int[] decls = new int[SIGNAL_LIMIT];
    /** The code that tells a signal, and the first signal of the instance whose code it is. */
    final int[] starts = new int[SIGNAL_LIMIT];
    final int[] stops = new int[SIGNAL_LIMIT];
    final int[] frames = new int[SIGNAL_LIMIT];
    /** The output of an instance that a signal is the same as, or NONE. */
    final int[] sources = new int[SIGNAL_LIMIT];
    /** All signals that are told by others, each behind those. */
    final int[] order = new int[SIGNAL_LIMIT];
    int ordered;

    /** Asks for a design that is above no limit. */
    void build() {
      int top = design.moduleCount - 1;
      instances = Math.min(design.sumOfTop(INSTANCES), bases.length);
      signals = Math.min(design.sumOfTop(SIGNALS), decls.length);
      bases[0] = 0;
      modules[0] = top;
      parents[0] = NONE;
      children[0] = NONE;
      for (int i = 0; i < instances; i++) {
        layChildren(i);
        laySignals(i);
        if (i > 0) layLinks(i);
      }
    }

    private int ownSignals(int module) {
      return design.firstDecl(module + 1) - design.firstDecl(module);
    }

    /** How much is inside each child is known, and so is where the next one stands. */
    private void layChildren(int instance) {
      int module = modules[instance];
      int number = instance + 1;
      int base = bases[instance] + ownSignals(module);
      int stop = design.firstChild(module + 1);
      for (int child = design.firstChild(module); child < stop && number < bases.length; child++) {
        int inside = design.parts.childModules[child];
        bases[number] = base;
        modules[number] = inside;
        parents[number] = instance;
        children[number] = child;
        number += design.sumOf(INSTANCES, inside);
        base += design.sumOf(SIGNALS, inside);
      }
    }

    private void laySignals(int instance) {
      int base = bases[instance];
      int first = design.firstDecl(modules[instance]);
      int own = ownSignals(modules[instance]);
      for (int i = 0; i < own && base + i < signals; i++) {
        boolean told = design.parts.sorts[first + i] == SORT_DRIVEN;
        decls[base + i] = first + i;
        starts[base + i] = told ? design.parts.starts[first + i] : 0;
        stops[base + i] = told ? design.parts.stops[first + i] : 0;
        frames[base + i] = base;
        sources[base + i] = NONE;
      }
    }

    private void layLinks(int instance) {
      Parts parts = design.parts;
      int base = bases[instance];
      int outer = bases[parents[instance]];
      int stop = parts.linksEnd(children[instance]);
      for (int link = parts.firstLinks[children[instance]]; link < stop; link++) {
        int signal = base + parts.linkPorts[link];
        int driven = outer + parts.linkStarts[link];
        if (!isSignal(signal)) continue;
        if (parts.sorts[decls[signal]] == SORT_INPUT) {
          starts[signal] = parts.linkStarts[link];
          stops[signal] = parts.linkStops[link];
          frames[signal] = outer;
        } else if (isSignal(driven)) {
          sources[driven] = signal;
        }
      }
    }

    private boolean isSignal(int s) {
      return s >= 0 && s < signals;
    }

    int widthOf(int s) {
      return isSignal(s) ? design.parts.widths[decls[s]] : 1;
    }

    int placeOf(int s) {
      return isSignal(s) ? design.parts.places[decls[s]] : NONE;
    }

    long firstOf(int s) {
      return isSignal(s) ? design.parts.firsts[decls[s]] : 0;
    }

    /** Inputs of instances are told by their links, as driven ones are by what drives them. */
    int sortOf(int s) {
      if (!isSignal(s)) return NONE;
      int sort = design.parts.sorts[decls[s]];
      return sort == SORT_INPUT && s >= ownSignals(modules[0]) ? SORT_DRIVEN : sort;
    }

    int seek(byte[] name, int size) {
      int instance = 0;
      int from = 0;
      for (int i = 0; i < size && i < name.length && instance != NONE; i++) {
        if (name[i] == '.') {
          instance = childCalled(instance, name, from, i);
          from = i + 1;
        }
      }
      return instance == NONE ? NONE : signalCalled(instance, name, from, size);
    }

    private int childCalled(int parent, byte[] name, int from, int to) {
      for (int i = parent + 1; i < instances; i++) {
        if (parents[i] != parent) continue;
        if (design.isCalled(design.parts.childPlaces[children[i]], name, from, to)) return i;
      }
      return NONE;
    }

    private int signalCalled(int instance, byte[] name, int from, int to) {
      int stop = bases[instance] + ownSignals(modules[instance]);
      for (int s = bases[instance]; s < stop; s++) {
        if (design.isCalled(placeOf(s), name, from, to)) return s;
      }
      return NONE;
    }
  }

  /**
   * Puts signals behind those on which they depend, and finds the ones that depend on themselves:
   * Tarjan's way to the strongly connected components, with rows in place of calls.
   */
  private static final class Order {
    private static final int CLOSED = 1 << 30;
    private static final int MOVES = 1 << 24;

    private Circuit circuit;
    private final int[] numbers = new int[SIGNAL_LIMIT];
    private final int[] lowest = new int[SIGNAL_LIMIT];
    private final int[] cursors = new int[SIGNAL_LIMIT];
    private final int[] path = new int[SIGNAL_LIMIT];
    private final int[] open = new int[SIGNAL_LIMIT];
    private int pathSize;
    private int openSize;
    private int seen;
    private int looped;

    /** The first signal that depends on itself, or NONE. */
    int arrange(Circuit newCircuit) {
      circuit = newCircuit;
      circuit.ordered = 0;
      for (int s = 0; s < circuit.signals; s++) numbers[s] = 0;
      pathSize = 0;
      openSize = 0;
      seen = 0;
      looped = CLOSED;
      for (int s = 0; s < circuit.signals; s++) {
        if (numbers[s] == 0) visit(s);
      }
      return looped == CLOSED ? NONE : looped;
    }

    private void visit(int root) {
      enter(root);
      for (int n = 0; n < MOVES && pathSize > 0; n++) {
        int s = path[pathSize - 1];
        int needed = nextNeeded(s);
        if (needed == NONE) {
          leave(s);
        } else if (numbers[needed] == 0) {
          enter(needed);
        } else {
          lowest[s] = Math.min(lowest[s], numbers[needed]);
          if (needed == s) looped = Math.min(looped, s);
        }
      }
    }

    private void enter(int s) {
      if (pathSize >= path.length || openSize >= open.length) return;
      seen++;
      numbers[s] = seen;
      lowest[s] = seen;
      cursors[s] = circuit.starts[s];
      path[pathSize] = s;
      pathSize++;
      open[openSize] = s;
      openSize++;
    }

    /** The next signal in what tells this one, or NONE. */
    private int nextNeeded(int s) {
      Code code = circuit.design.code;
      if (circuit.sources[s] != NONE) {
        if (cursors[s] == NONE) return NONE;
        cursors[s] = NONE;
        return circuit.sources[s];
      }
      int stop = Math.min(circuit.stops[s], code.size);
      for (int at = Math.max(cursors[s], 0); at < stop; at++) {
        if (code.opAt(at) != LOAD) continue;
        cursors[s] = at + 1;
        int needed = circuit.frames[s] + code.argAt(at);
        if (needed >= 0 && needed < circuit.signals) return needed;
      }
      return NONE;
    }

    private void leave(int s) {
      pathSize--;
      if (pathSize > 0) {
        int user = path[pathSize - 1];
        lowest[user] = Math.min(lowest[user], lowest[s]);
      }
      if (lowest[s] != numbers[s]) return;
      boolean many = openSize > 0 && open[openSize - 1] != s;
      int member = NONE;
      while (openSize > 0 && member != s) {
        openSize--;
        member = open[openSize];
        numbers[member] = CLOSED;
        if (many) looped = Math.min(looped, member);
        append(member);
      }
    }

    /** Inputs of the top and registers are told by nothing. */
    private void append(int s) {
      boolean told = circuit.sources[s] != NONE || circuit.stops[s] > circuit.starts[s];
      if (!told || circuit.ordered >= circuit.order.length) return;
      circuit.order[circuit.ordered] = s;
      circuit.ordered++;
    }
  }

  /** The run: a cycle's values are worked out when they are asked for. */
  private static final class Machine {
    /** The stack begins here, so that what takes three operands stays within it. */
    private static final int FLOOR = 3;
    private static final long TOP_BIT = 1L << 63;

    private final long[] values = new long[SIGNAL_LIMIT];
    private final long[] nexts = new long[SIGNAL_LIMIT];
    private final long[] stack = new long[STACK_ROOM];
    private int cycle;
    private boolean settled;

    void restart(Circuit circuit) {
      for (int s = 0; s < circuit.signals; s++) values[s] = circuit.firstOf(s);
      cycle = 0;
      settled = false;
    }

    void put(int s, long value) {
      if (s < 0 || s >= values.length) return;
      values[s] = value;
      settled = false;
    }

    long valueOf(Circuit circuit, int s) {
      settle(circuit);
      return s >= 0 && s < values.length ? values[s] : 0;
    }

    int advance(Circuit circuit) {
      settle(circuit);
      System.arraycopy(values, 0, nexts, 0, circuit.signals);
      runPieces(circuit, 0);
      System.arraycopy(nexts, 0, values, 0, circuit.signals);
      settled = false;
      cycle++;
      return cycle;
    }

    int unheld(Circuit circuit) {
      settle(circuit);
      return runPieces(circuit, 1);
    }

    private void settle(Circuit circuit) {
      if (settled) return;
      Code code = circuit.design.code;
      for (int i = 0; i < circuit.ordered; i++) {
        int s = circuit.order[i];
        int source = circuit.sources[s];
        if (source != NONE) values[s] = values[source];
        else values[s] = run(code, circuit.starts[s], circuit.stops[s], circuit.frames[s]);
      }
      settled = true;
    }

    /** Runs the asserts or the always of all instances; how many of them answer 0. */
    private int runPieces(Circuit circuit, int isAssert) {
      Design design = circuit.design;
      int zeros = 0;
      for (int i = 0; i < circuit.instances; i++) {
        int stop = design.firstPiece(circuit.modules[i] + 1);
        for (int piece = design.firstPiece(circuit.modules[i]); piece < stop; piece++) {
          if (design.pieceAsserts[piece] != isAssert) continue;
          long answer = run(design.code, design.pieceStarts[piece], design.pieceStops[piece], circuit.bases[i]);
          if (answer == 0) zeros++;
        }
      }
      return zeros;
    }

    private long run(Code code, int start, int stop, int frame) {
      int top = FLOOR;
      int end = Math.min(stop, code.size);
      for (int at = Math.max(start, 0); at < end && top >= FLOOR && top + 1 < stack.length; at++) {
        int op = code.opAt(at);
        int arg = code.argAt(at);
        if (op < UNARY) {
          top--;
          stack[top] = two(op, arg, stack[top], stack[top + 1]);
        } else if (op < CHOOSE) {
          stack[top] = one(op - UNARY, arg, stack[top]);
        } else if (op == LOAD) {
          int s = frame + arg;
          top++;
          stack[top] = s >= 0 && s < values.length ? values[s] : 0;
        } else if (op == LITERAL) {
          top++;
          stack[top] = code.valueOf(arg);
        } else if (op == CHOOSE) {
          top -= 2;
          stack[top] = stack[top] != 0 ? stack[top + 1] : stack[top + 2];
        } else if (op == JUMP) {
          at = Math.max(at, arg - 1);
        } else if (op == MATCH) {
          top--;
          if (stack[top] == stack[top + 1]) at = Math.max(at, arg - 1);
        } else {
          long value = stack[top];
          top--;
          if (op == STORE) store(frame, arg, value);
          else if (op == UNLESS && value == 0) at = Math.max(at, arg - 1);
        }
      }
      return top >= 0 && top < stack.length ? stack[top] : 0;
    }

    private void store(int frame, int arg, long value) {
      int s = frame + (arg >>> 14);
      int low = (arg >>> 7) & 127;
      if (s < 0 || s >= nexts.length) return;
      long bits = mask(arg & 127) << low;
      nexts[s] = (nexts[s] & ~bits) | (value << low);
    }

    private static long one(int op, int arg, long a) {
      switch (op) {
        case '~': return ~a & mask(arg);
        case '-': return -a & mask(arg);
        case '!': return a == 0 ? 1 : 0;
        case '&': return a == mask(arg) ? 1 : 0;
        case '|': return a != 0 ? 1 : 0;
        case '^': return Long.bitCount(a) & 1;
        case '[': return (a >>> (arg >>> 8)) & mask(arg & 255);
        default: return repeated(arg >>> 8, arg & 255, a);
      }
    }

    private static long repeated(int times, int width, long a) {
      long row = a;
      for (int n = 1; n < times; n++) row = (row << width) | a;
      return row;
    }

    private static long two(int op, int arg, long a, long b) {
      switch (op) {
        case '+': return (a + b) & mask(arg);
        case '-': return (a - b) & mask(arg);
        case '*': return (a * b) & mask(arg);
        case '&': return a & b;
        case '|': return a | b;
        case '^': return a ^ b;
        case LEFT: return isBeyond(b) ? 0 : (a << b) & mask(arg);
        case RIGHT: return isBeyond(b) ? 0 : a >>> b;
        case '[': return isBeyond(b) ? 0 : (a >>> b) & 1;
        case ',': return (a << arg) | b;
        default: return asked(op, a, b) ? 1 : 0;
      }
    }

    /** As 64 bits, a negative number is one above all places. */
    private static boolean isBeyond(long place) {
      return place < 0 || place >= WIDTH_LIMIT;
    }

    private static boolean asked(int op, long a, long b) {
      switch (op) {
        case SAME: return a == b;
        case OTHER: return a != b;
        case '<': return (a ^ TOP_BIT) < (b ^ TOP_BIT);
        case AT_MOST: return (a ^ TOP_BIT) <= (b ^ TOP_BIT);
        case '>': return (a ^ TOP_BIT) > (b ^ TOP_BIT);
        case AT_LEAST: return (a ^ TOP_BIT) >= (b ^ TOP_BIT);
        case AND_AND: return a != 0 && b != 0;
        default: return a != 0 || b != 0;
      }
    }
  }
}
