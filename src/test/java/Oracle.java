import java.math.BigInteger;
import java.util.ArrayList;
import java.util.HashMap;
import java.util.HashSet;
import java.util.LinkedHashMap;
import java.util.List;
import java.util.Map;
import java.util.Set;

/**
 * The document once more, written as plainly as the Java library lets it be written, with trees and
 * recursion: RandomTest compares the class with it. It shares no code with the class.
 */
final class Oracle {
  static final class Fault extends RuntimeException {
    private static final long serialVersionUID = 1L;
    final int code;
    final int place;

    Fault(int code, int place) {
      this.code = code;
      this.place = place;
    }
  }

  // ---------------------------------------------------------------- text

  record Token(String kind, String text, int place, int width, BigInteger value) {}

  private static final Set<String> KEYWORDS = Set.of("module", "endmodule", "input", "output", "wire", "reg",
      "assign", "always", "posedge", "clock", "begin", "end", "if", "else", "case", "endcase", "default", "assert");
  private static final String[] SIGNS = {"&&", "||", "==", "!=", "<=", ">=", "<<", ">>", "+", "-", "*", "&", "|", "^",
      "~", "!", "<", ">", "?", ":", ";", ",", ".", "(", ")", "[", "]", "{", "}", "=", "@"};

  static List<Token> tokens(String s) {
    List<Token> row = new ArrayList<>();
    int i = 0;
    while (i < s.length()) {
      char c = s.charAt(i);
      if (c == 9 || c == 10 || c == 13 || c == 32) {
        i++;
      } else if (s.startsWith("//", i)) {
        int e = s.indexOf('\n', i);
        i = e < 0 ? s.length() : e;
      } else if (s.startsWith("/*", i)) {
        int e = s.indexOf("*/", i + 2);
        if (e < 0) return bad(row, i);
        i = e + 2;
      } else if (String.valueOf(c).matches("[A-Za-z_]")) {
        int e = i;
        while (e < s.length() && String.valueOf(s.charAt(e)).matches("[A-Za-z0-9_$]")) e++;
        String w = s.substring(i, e);
        row.add(new Token(KEYWORDS.contains(w) ? w : "NAME", w, i, 0, null));
        i = e;
      } else if (c >= '0' && c <= '9') {
        int e = i;
        boolean quote = false;
        while (e < s.length() && (String.valueOf(s.charAt(e)).matches("[A-Za-z0-9_$]") || s.charAt(e) == '\'' && !quote)) {
          quote |= s.charAt(e) == '\'';
          e++;
        }
        Token t = number(s.substring(i, e), i);
        if (t == null) return bad(row, i);
        row.add(t);
        i = e;
      } else {
        String sign = null;
        for (String g : SIGNS) if (sign == null && s.startsWith(g, i)) sign = g;
        if (sign == null) return bad(row, i);
        row.add(new Token(sign, sign, i, 0, null));
        i += sign.length();
      }
    }
    row.add(new Token("END", "", s.length(), 0, null));
    return row;
  }

  private static List<Token> bad(List<Token> row, int place) {
    row.add(new Token("BAD", "", place, 0, null));
    return row;
  }

  private static Token number(String w, int place) {
    if (w.matches("[0-9]+")) {
      BigInteger v = new BigInteger(w);
      return v.compareTo(BigInteger.valueOf(65535)) > 0 ? null : new Token("PLAIN", w, place, 0, v);
    }
    if (!w.matches("[0-9]+'(b[01]+|o[0-7]+|d[0-9]+|h[0-9a-fA-F]+)")) return null;
    int q = w.indexOf('\'');
    BigInteger width = new BigInteger(w.substring(0, q));
    if (width.signum() == 0 || width.compareTo(BigInteger.valueOf(64)) > 0) return null;
    int base = w.charAt(q + 1) == 'b' ? 2 : w.charAt(q + 1) == 'o' ? 8 : w.charAt(q + 1) == 'd' ? 10 : 16;
    BigInteger v = new BigInteger(w.substring(q + 2), base);
    if (v.bitLength() > width.intValue()) return null;
    return new Token("SIZED", w, place, width.intValue(), v);
  }

  // ---------------------------------------------------------------- grammar

  /** op: "SIZED", "NAME", "part", "index", "u~" and so on, "+" and so on, "?", "{", "{n", "(". */
  static final class Exp {
    String op;
    int place;
    Token token;
    int high;
    int low;
    int bracket;
    int times;
    List<Exp> of = new ArrayList<>();
    int first;
    int width;

    Exp(String op, int place) {
      this.op = op;
      this.place = place;
    }
  }

  static final class Statement {
    String op;
    Token name;
    boolean hasPart;
    int high;
    int low;
    int bracket;
    int sign;
    Exp exp;
    List<Statement> of = new ArrayList<>();
    List<List<Token>> labels = new ArrayList<>();
    Statement other;
  }

  static final class Link {
    Token name;
    int dot;
    Exp exp;
  }

  static final class Item {
    String kind;
    String direction = "";
    Token name;
    int bracket = -1;
    int high;
    int low;
    Token first;
    Exp exp;
    int sign;
    Statement statement;
    Token type;
    List<Link> links = new ArrayList<>();
  }

  static final class Module {
    Token name;
    List<Item> items = new ArrayList<>();
    int ports;
  }

  static final class Parser {
    final List<Token> row;
    int at = 0;
    int opens = 0;

    Parser(List<Token> row) {
      this.row = row;
    }

    Token now() {
      return row.get(at);
    }

    boolean is(String kind) {
      return now().kind.equals(kind);
    }

    Fault no() {
      return new Fault(is("BAD") ? 1 : 2, now().place);
    }

    Token take(String kind) {
      if (!is(kind)) throw no();
      return row.get(at++);
    }

    Token open(String kind) {
      if (!is(kind)) throw no();
      opens++;
      if (opens > 60) throw new Fault(3, now().place);
      return take(kind);
    }

    void shut(String kind) {
      take(kind);
      opens--;
    }

    List<Module> design() {
      List<Module> all = new ArrayList<>();
      do {
        all.add(module());
      } while (!is("END"));
      return all;
    }

    Module module() {
      Module m = new Module();
      take("module");
      m.name = take("NAME");
      open("(");
      if (!is(")")) {
        m.items.add(port());
        while (is(",")) {
          take(",");
          m.items.add(port());
        }
      }
      m.ports = m.items.size();
      shut(")");
      take(";");
      while (!is("endmodule")) m.items.add(item());
      take("endmodule");
      return m;
    }

    Item port() {
      Item i = new Item();
      if (is("input")) {
        take("input");
        i.direction = "input";
        i.kind = "input";
        declared(i);
        return i;
      }
      take("output");
      i.direction = "output";
      i.kind = "wire";
      if (is("reg")) {
        take("reg");
        i.kind = "reg";
      }
      declared(i);
      return i;
    }

    void declared(Item i) {
      if (is("[")) {
        i.bracket = open("[").place;
        i.high = take("PLAIN").value.intValue();
        take(":");
        i.low = take("PLAIN").value.intValue();
        shut("]");
      }
      i.name = take("NAME");
      if (i.kind.equals("reg") && is("=")) {
        take("=");
        i.first = take("SIZED");
      }
    }

    Item item() {
      Item i = new Item();
      if (is("wire") || is("reg")) {
        i.kind = now().kind;
        at++;
        declared(i);
        take(";");
      } else if (is("assign")) {
        i.kind = "assign";
        take("assign");
        i.name = take("NAME");
        i.sign = take("=").place;
        i.exp = exp();
        take(";");
      } else if (is("always")) {
        i.kind = "always";
        take("always");
        take("@");
        open("(");
        take("posedge");
        take("clock");
        shut(")");
        i.statement = statement();
      } else if (is("assert")) {
        i.kind = "assert";
        take("assert");
        open("(");
        i.exp = exp();
        shut(")");
        take(";");
      } else {
        i.kind = "instance";
        i.type = take("NAME");
        i.name = take("NAME");
        open("(");
        if (!is(")")) {
          i.links.add(link());
          while (is(",")) {
            take(",");
            i.links.add(link());
          }
        }
        shut(")");
        take(";");
      }
      return i;
    }

    Link link() {
      Link l = new Link();
      l.dot = take(".").place;
      l.name = take("NAME");
      open("(");
      l.exp = exp();
      shut(")");
      return l;
    }

    Statement statement() {
      Statement s = new Statement();
      if (is("begin")) {
        s.op = "begin";
        open("begin");
        while (!is("end")) s.of.add(statement());
        shut("end");
      } else if (is("if")) {
        s.op = "if";
        open("if");
        open("(");
        s.exp = exp();
        shut(")");
        s.of.add(statement());
        if (is("else")) {
          take("else");
          s.other = statement();
        }
        opens--;
      } else if (is("case")) {
        s.op = "case";
        open("case");
        open("(");
        s.exp = exp();
        shut(")");
        while (is("SIZED")) {
          List<Token> labels = new ArrayList<>();
          labels.add(take("SIZED"));
          while (is(",")) {
            take(",");
            labels.add(take("SIZED"));
          }
          take(":");
          s.labels.add(labels);
          s.of.add(statement());
        }
        if (is("default")) {
          take("default");
          take(":");
          s.other = statement();
        }
        shut("endcase");
      } else {
        s.op = "<=";
        s.name = take("NAME");
        if (is("[")) {
          s.hasPart = true;
          s.bracket = open("[").place;
          s.high = take("PLAIN").value.intValue();
          s.low = s.high;
          if (is(":")) {
            take(":");
            s.low = take("PLAIN").value.intValue();
          }
          shut("]");
        }
        s.sign = take("<=").place;
        s.exp = exp();
        take(";");
      }
      return s;
    }

    Exp exp() {
      int first = now().place;
      Exp a = ranked(0);
      if (is("?")) {
        Exp e = new Exp("?", open("?").place);
        e.of.add(a);
        e.of.add(exp());
        take(":");
        e.of.add(exp());
        opens--;
        a = e;
      }
      a.first = first;
      return a;
    }

    private static final String[] RANKS = {"||", "&&", "|", "^", "&", "== !=", "< <= > >=", "<< >>", "+ -", "*"};

    Exp ranked(int rank) {
      if (rank == RANKS.length) return operand();
      Exp a = ranked(rank + 1);
      while (List.of(RANKS[rank].split(" ")).contains(now().kind)) {
        Exp e = new Exp(now().kind, now().place);
        at++;
        e.of.add(a);
        e.of.add(ranked(rank + 1));
        a = e;
      }
      return a;
    }

    Exp operand() {
      if (List.of("~", "!", "-", "&", "|", "^").contains(now().kind)) {
        Exp e = new Exp("u" + now().kind, now().place);
        at++;
        e.of.add(operand());
        return e;
      }
      return primary();
    }

    Exp primary() {
      Exp e = new Exp(now().kind, now().place);
      e.token = now();
      if (is("SIZED")) {
        at++;
      } else if (is("NAME")) {
        at++;
        if (is("[")) {
          e.bracket = open("[").place;
          if (is("PLAIN")) {
            e.op = "part";
            e.high = take("PLAIN").value.intValue();
            e.low = e.high;
            if (is(":")) {
              take(":");
              e.low = take("PLAIN").value.intValue();
            }
          } else {
            e.op = "index";
            e.of.add(exp());
          }
          shut("]");
        }
      } else if (is("(")) {
        open("(");
        e.of.add(exp());
        shut(")");
      } else if (is("{")) {
        open("{");
        if (is("PLAIN")) {
          e.op = "{n";
          e.times = take("PLAIN").value.intValue();
          open("{");
          e.of.add(exp());
          shut("}");
        } else {
          e.of.add(exp());
          while (is(",")) {
            take(",");
            e.of.add(exp());
          }
        }
        shut("}");
      } else {
        throw no();
      }
      return e;
    }
  }

  // ---------------------------------------------------------------- meaning

  static final class Declared {
    String kind;
    String direction;
    int place;
    int width;
    BigInteger first = BigInteger.ZERO;
    Exp driver;
    Item byInstance;
    String byPort;
    Item always;
  }

  static final class Checked {
    Module module;
    Map<String, Declared> names = new LinkedHashMap<>();
    List<Item> instances = new ArrayList<>();
    long cost;
  }

  final List<Checked> checked = new ArrayList<>();
  private final Map<String, Checked> byName = new HashMap<>();
  private Checked here;

  private void check(List<Module> design) {
    for (Module m : design) {
      if (byName.containsKey(m.name.text)) throw new Fault(20, m.name.place);
      here = new Checked();
      here.module = m;
      for (Item i : m.items) item(i);
      for (Declared d : here.names.values()) {
        if (d.kind.equals("wire") && d.driver == null && d.byInstance == null) throw new Fault(33, d.place);
      }
      byName.put(m.name.text, here);
      checked.add(here);
    }
  }

  private void item(Item i) {
    switch (i.kind) {
      case "input", "wire", "reg" -> declare(i);
      case "assign" -> {
        Declared d = here.names.get(i.name.text);
        if (d == null || !d.kind.equals("wire")) throw new Fault(22, i.name.place);
        if (d.driver != null || d.byInstance != null) throw new Fault(31, i.name.place);
        width(i.exp);
        if (i.exp.width != d.width) throw new Fault(30, i.sign);
        d.driver = i.exp;
      }
      case "assert" -> spend(width(i.exp));
      case "always" -> statement(i, i.statement);
      default -> instance(i);
    }
  }

  private void spend(int amount) {
    here.cost += amount;
  }

  private void declare(Item i) {
    Declared d = new Declared();
    d.kind = i.kind;
    d.direction = i.direction;
    d.width = 1;
    d.place = i.name.place;
    if (i.bracket >= 0) {
      if (i.low != 0 || i.high > 63) throw new Fault(30, i.bracket);
      d.width = i.high + 1;
    }
    if (here.names.containsKey(i.name.text)) throw new Fault(21, i.name.place);
    here.names.put(i.name.text, d);
    if (i.first != null) {
      if (i.first.width != d.width) throw new Fault(30, i.first.place);
      d.first = i.first.value;
    }
  }

  private void instance(Item i) {
    Checked type = byName.get(i.type.text);
    if (type == null) throw new Fault(22, i.type.place);
    if (here.names.containsKey(i.name.text)) throw new Fault(21, i.name.place);
    Declared own = new Declared();
    own.kind = "instance";
    here.names.put(i.name.text, own);
    here.instances.add(i);
    Set<String> linked = new HashSet<>();
    for (Link l : i.links) {
      Declared port = type.names.get(l.name.text);
      if (port == null || port.direction == null || port.direction.isEmpty()) throw new Fault(23, l.name.place);
      if (!linked.add(l.name.text)) throw new Fault(23, l.name.place);
      width(l.exp);
      boolean out = port.direction.equals("output");
      Declared d = l.exp.op.equals("NAME") ? here.names.get(l.exp.token.text) : null;
      if (out && (d == null || !d.kind.equals("wire"))) throw new Fault(25, l.exp.first);
      if (l.exp.width != port.width) throw new Fault(30, l.dot);
      if (out) {
        if (d.driver != null || d.byInstance != null) throw new Fault(31, l.exp.place);
        d.byInstance = i;
        d.byPort = l.name.text;
      }
    }
    if (linked.size() != type.module.ports) throw new Fault(24, i.name.place);
  }

  private void statement(Item always, Statement s) {
    switch (s.op) {
      case "begin" -> {
        for (Statement t : s.of) statement(always, t);
      }
      case "if" -> {
        spend(width(s.exp));
        statement(always, s.of.get(0));
        if (s.other != null) statement(always, s.other);
      }
      case "case" -> {
        int w = width(s.exp);
        for (int k = 0; k < s.of.size(); k++) {
          for (Token t : s.labels.get(k)) {
            if (t.width != w) throw new Fault(30, t.place);
            here.cost += w;
          }
          statement(always, s.of.get(k));
        }
        if (s.other != null) statement(always, s.other);
      }
      default -> {
        Declared d = here.names.get(s.name.text);
        if (d == null || !d.kind.equals("reg")) throw new Fault(22, s.name.place);
        if (d.always != null && d.always != always) throw new Fault(32, s.name.place);
        d.always = always;
        int w = d.width;
        if (s.hasPart) {
          if (s.high < s.low || s.high >= w) throw new Fault(30, s.bracket);
          w = s.high - s.low + 1;
        } else {
          s.high = w - 1;
          s.low = 0;
        }
        if (width(s.exp) != w) throw new Fault(30, s.sign);
        here.cost += w;
      }
    }
  }

  private int width(Exp e) {
    if (e.token != null && e.token.kind.equals("NAME")) {
      Declared d = here.names.get(e.token.text);
      if (d == null || d.kind.equals("instance")) throw new Fault(22, e.place);
    }
    List<Integer> w = new ArrayList<>();
    for (Exp x : e.of) w.add(width(x));
    int widest = 0;
    int sum = 0;
    for (int x : w) {
      widest = Math.max(widest, x);
      sum += x;
    }
    boolean differ = w.size() >= 2 && !w.get(w.size() - 2).equals(w.get(w.size() - 1));
    switch (e.op) {
      case "SIZED" -> e.width = e.token.width;
      case "NAME" -> e.width = here.names.get(e.token.text).width;
      case "part" -> {
        if (e.high < e.low || e.high >= here.names.get(e.token.text).width) throw new Fault(30, e.bracket);
        e.width = e.high - e.low + 1;
      }
      case "index" -> {
        here.cost += Math.max(widest, here.names.get(e.token.text).width);
        e.width = 1;
      }
      case "(" -> e.width = sum;
      case "{" -> {
        if (sum > 64) throw new Fault(30, e.place);
        e.width = sum;
      }
      case "{n" -> {
        if (sum * e.times > 64 || e.times == 0) throw new Fault(30, e.place);
        e.width = sum * e.times;
      }
      case "u~", "u-" -> {
        here.cost += widest;
        e.width = widest;
      }
      case "u!", "u&", "u|", "u^" -> {
        here.cost += widest;
        e.width = 1;
      }
      case "&&", "||" -> {
        here.cost += widest;
        e.width = 1;
      }
      case "==", "!=", "<", "<=", ">", ">=" -> {
        if (differ) throw new Fault(30, e.place);
        here.cost += widest;
        e.width = 1;
      }
      case "<<", ">>" -> {
        here.cost += 3 * w.get(0) + w.get(1);
        e.width = w.get(0);
      }
      case "?" -> {
        if (differ) throw new Fault(30, e.place);
        here.cost += widest;
        e.width = w.get(1);
      }
      default -> {
        if (differ) throw new Fault(30, e.place);
        here.cost += e.op.equals("*") ? widest * widest : widest;
        e.width = widest;
      }
    }
    return e.width;
  }

  // ---------------------------------------------------------------- the circuit

  static final class Signal {
    String path;
    Declared declared;
    boolean top;
    Exp exp;
    Instance expIn;
    Signal same;
    BigInteger value;
    BigInteger next;
    int number;

    boolean isRegister() {
      return declared.kind.equals("reg");
    }

    boolean isInput() {
      return top && declared.kind.equals("input");
    }
  }

  static final class Instance {
    Checked type;
    Map<String, Signal> signals = new LinkedHashMap<>();
  }

  final List<Signal> signals = new ArrayList<>();
  final List<Instance> instances = new ArrayList<>();
  private final Map<Checked, BigInteger[]> sums = new HashMap<>();

  /** Instances, signals, bits of registers, cost, asserts of one module with all that is in it. */
  BigInteger[] sum(Checked c) {
    BigInteger[] s = sums.get(c);
    if (s != null) return s;
    s = new BigInteger[] {BigInteger.ONE, BigInteger.ZERO, BigInteger.ZERO, BigInteger.valueOf(c.cost), BigInteger.ZERO};
    for (Declared d : c.names.values()) {
      if (d.kind.equals("instance")) continue;
      s[1] = s[1].add(BigInteger.ONE);
      if (d.kind.equals("reg")) s[2] = s[2].add(BigInteger.valueOf(d.width));
    }
    for (Item i : c.module.items) if (i.kind.equals("assert")) s[4] = s[4].add(BigInteger.ONE);
    for (Item i : c.instances) {
      BigInteger[] t = sum(byName.get(i.type.text));
      for (int k = 0; k < s.length; k++) s[k] = s[k].add(t[k]);
    }
    sums.put(c, s);
    return s;
  }

  int inputBits;

  private void limits(Checked top) {
    BigInteger[] s = sum(top);
    int place = top.module.name.place;
    for (Declared d : top.names.values()) if (d.kind.equals("input")) inputBits += d.width;
    if (s[0].compareTo(BigInteger.valueOf(257)) > 0) throw new Fault(40, place);
    if (s[1].compareTo(BigInteger.valueOf(1024)) > 0) throw new Fault(41, place);
    if (s[2].compareTo(BigInteger.valueOf(12)) > 0) throw new Fault(42, place);
    if (inputBits > 6) throw new Fault(43, place);
    if (s[3].compareTo(BigInteger.valueOf(1500)) > 0) throw new Fault(44, place);
    BigInteger work = s[3].max(BigInteger.ONE).shiftLeft(inputBits + s[2].intValue());
    if (work.compareTo(BigInteger.valueOf(16777216)) > 0) throw new Fault(46, place);
  }

  private Instance lay(Checked type, String path, Item told, Instance outer) {
    Instance in = new Instance();
    in.type = type;
    instances.add(in);
    for (Map.Entry<String, Declared> e : type.names.entrySet()) {
      if (e.getValue().kind.equals("instance")) continue;
      Signal s = new Signal();
      s.path = path + e.getKey();
      s.declared = e.getValue();
      s.top = told == null;
      s.exp = s.declared.driver;
      s.expIn = in;
      s.number = signals.size();
      signals.add(s);
      in.signals.put(e.getKey(), s);
    }
    if (told != null) {
      for (Link l : told.links) {
        Signal port = in.signals.get(l.name.text);
        if (port.declared.kind.equals("input")) {
          port.exp = l.exp;
          port.expIn = outer;
        } else {
          outer.signals.get(l.exp.token.text).same = port;
        }
      }
    }
    for (Item i : type.instances) lay(byName.get(i.type.text), path + i.name.text + ".", i, in);
    return in;
  }

  private static void names(Exp e, Instance in, Set<Signal> into) {
    if (e.token != null && e.token.kind.equals("NAME")) into.add(in.signals.get(e.token.text));
    for (Exp x : e.of) names(x, in, into);
  }

  private static Set<Signal> needs(Signal s) {
    Set<Signal> all = new HashSet<>();
    if (s.isRegister()) return all;
    if (s.same != null) all.add(s.same);
    else if (s.exp != null) names(s.exp, s.expIn, all);
    return all;
  }

  private static boolean dependsOnItself(Signal s) {
    Set<Signal> seen = new HashSet<>();
    List<Signal> todo = new ArrayList<>(needs(s));
    while (!todo.isEmpty()) {
      Signal t = todo.remove(todo.size() - 1);
      if (t == s) return true;
      if (seen.add(t)) todo.addAll(needs(t));
    }
    return false;
  }

  // ---------------------------------------------------------------- cycles

  private final Map<Signal, BigInteger> known = new HashMap<>();
  int cycle;

  void reset() {
    cycle = 0;
    for (Signal s : signals) s.value = s.isRegister() ? s.declared.first : BigInteger.ZERO;
    known.clear();
  }

  void set(int s, int value) {
    signals.get(s).value = BigInteger.valueOf(value);
    known.clear();
  }

  BigInteger value(Signal s) {
    if (s.isRegister() || s.isInput()) return s.value;
    BigInteger v = known.get(s);
    if (v == null) {
      v = s.same != null ? value(s.same) : value(s.exp, s.expIn);
      known.put(s, v);
    }
    return v;
  }

  private static BigInteger cut(BigInteger v, int width) {
    return v.mod(BigInteger.ONE.shiftLeft(width));
  }

  private static BigInteger yes(boolean b) {
    return b ? BigInteger.ONE : BigInteger.ZERO;
  }

  private static final BigInteger FAR = BigInteger.valueOf(64);

  BigInteger value(Exp e, Instance in) {
    BigInteger a = e.of.isEmpty() ? null : value(e.of.get(0), in);
    BigInteger b = e.of.size() < 2 ? null : value(e.of.get(1), in);
    int w = e.of.isEmpty() ? 0 : e.of.get(0).width;
    switch (e.op) {
      case "SIZED": return e.token.value;
      case "NAME": return value(in.signals.get(e.token.text));
      case "part": return cut(value(in.signals.get(e.token.text)).shiftRight(e.low), e.width);
      case "index": return yes(a.compareTo(FAR) < 0 && value(in.signals.get(e.token.text)).testBit(a.intValue()));
      case "(": return a;
      case "{": {
        BigInteger v = b == null ? a : a.shiftLeft(e.of.get(1).width).or(b);
        for (Exp x : e.of.subList(Math.min(2, e.of.size()), e.of.size())) v = v.shiftLeft(x.width).or(value(x, in));
        return v;
      }
      case "{n": {
        BigInteger v = BigInteger.ZERO;
        for (int i = 0; i < e.times; i++) v = v.shiftLeft(w).or(a);
        return v;
      }
      case "u~": return BigInteger.ONE.shiftLeft(w).subtract(BigInteger.ONE).subtract(a);
      case "u-": return cut(a.negate(), w);
      case "u!": return yes(a.signum() == 0);
      case "u&": return yes(a.bitCount() == w);
      case "u|": return yes(a.signum() != 0);
      case "u^": return yes(a.bitCount() % 2 == 1);
      case "?": return a.signum() != 0 ? b : value(e.of.get(2), in);
      case "&&": return yes(a.signum() != 0 && b.signum() != 0);
      case "||": return yes(a.signum() != 0 || b.signum() != 0);
      case "==": return yes(a.equals(b));
      case "!=": return yes(!a.equals(b));
      case "<": return yes(a.compareTo(b) < 0);
      case "<=": return yes(a.compareTo(b) <= 0);
      case ">": return yes(a.compareTo(b) > 0);
      case ">=": return yes(a.compareTo(b) >= 0);
      case "<<": return b.compareTo(FAR) >= 0 ? BigInteger.ZERO : cut(a.shiftLeft(b.intValue()), w);
      case ">>": return b.compareTo(FAR) >= 0 ? BigInteger.ZERO : a.shiftRight(b.intValue());
      case "+": return cut(a.add(b), w);
      case "-": return cut(a.subtract(b), w);
      case "*": return cut(a.multiply(b), w);
      case "&": return a.and(b);
      case "|": return a.or(b);
      case "^": return a.xor(b);
      default: throw new IllegalStateException(e.op);
    }
  }

  int failing() {
    int n = 0;
    for (Instance in : instances) {
      for (Item i : in.type.module.items) {
        if (i.kind.equals("assert") && value(i.exp, in).signum() == 0) n++;
      }
    }
    return n;
  }

  int step() {
    for (Signal s : signals) s.next = s.value;
    for (Instance in : instances) {
      for (Item i : in.type.module.items) if (i.kind.equals("always")) run(i.statement, in);
    }
    for (Signal s : signals) s.value = s.next;
    known.clear();
    return ++cycle;
  }

  private void run(Statement s, Instance in) {
    switch (s.op) {
      case "begin" -> {
        for (Statement t : s.of) run(t, in);
      }
      case "if" -> {
        if (value(s.exp, in).signum() != 0) run(s.of.get(0), in);
        else if (s.other != null) run(s.other, in);
      }
      case "case" -> {
        BigInteger v = value(s.exp, in);
        for (int k = 0; k < s.of.size(); k++) {
          for (Token t : s.labels.get(k)) {
            if (t.value.equals(v)) {
              run(s.of.get(k), in);
              return;
            }
          }
        }
        if (s.other != null) run(s.other, in);
      }
      default -> {
        Signal r = in.signals.get(s.name.text);
        BigInteger v = value(s.exp, in);
        for (int i = s.low; i <= s.high; i++) {
          r.next = v.testBit(i - s.low) ? r.next.setBit(i) : r.next.clearBit(i);
        }
      }
    }
  }

  /** Throws a Fault if the text has one. */
  Oracle(String text) {
    check(new Parser(tokens(text)).design());
    Checked top = checked.get(checked.size() - 1);
    limits(top);
    lay(top, "", null, null);
    for (Signal s : signals) {
      if (!s.isRegister() && dependsOnItself(s)) throw new Fault(45, s.declared.place);
    }
    reset();
  }

  /** As count(what) tells it. */
  long count(int what) {
    BigInteger[] s = sum(checked.get(checked.size() - 1));
    switch (what) {
      case 0: return checked.size();
      case 1: return s[0].longValue() - 1;
      case 2: return s[1].longValue();
      case 3: return s[2].longValue();
      case 4: return inputBits;
      case 5: return s[4].longValue();
      default: return s[3].longValue();
    }
  }

  int find(String name) {
    for (Signal s : signals) if (s.path.equals(name)) return s.number;
    return -1;
  }

  int sort(int s) {
    return signals.get(s).isInput() ? 0 : signals.get(s).isRegister() ? 2 : 1;
  }
}
