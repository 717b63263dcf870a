import java.util.ArrayList;
import java.util.List;
import java.util.Random;

/** Makes texts of circuits: most without a fault, many with one that lies hidden well. */
final class RandomText {
  private final Random random;
  private final StringBuilder out = new StringBuilder();
  private final List<Made> made = new ArrayList<>();
  private Made here;
  private int bits;
  /** One in so many places is not as it should be. */
  private final int slip;

  private record Decl(String name, String kind, int width) {}

  private static final class Made {
    String name;
    final List<Decl> ports = new ArrayList<>();
    final List<Decl> all = new ArrayList<>();
    final List<Decl> undriven = new ArrayList<>();
    /** What may stand in an exp without making a loop. */
    final List<Decl> ready = new ArrayList<>();
    int registerBits;
    int names;
  }

  RandomText(Random random) {
    this.random = random;
    this.slip = random.nextInt(3) == 0 ? 40 + random.nextInt(400) : Integer.MAX_VALUE;
  }

  private boolean odds(int n) {
    return random.nextInt(n) == 0;
  }

  private boolean slips() {
    return slip != Integer.MAX_VALUE && odds(slip);
  }

  String text() {
    int modules = 1 + random.nextInt(4);
    bits = random.nextInt(11);
    for (int i = 0; i < modules; i++) module(i == modules - 1);
    return out.toString();
  }

  private void say(String s) {
    out.append(s);
    switch (random.nextInt(24)) {
      case 0 -> out.append("\n");
      case 1 -> out.append(" /* x */ ");
      case 2 -> out.append(" // y\n");
      case 3 -> out.append("\t");
      default -> out.append(" ");
    }
  }

  private String newName() {
    if (slips() && !here.all.isEmpty()) return pick(here.all).name;
    return "abcdefgh".charAt(random.nextInt(8)) + (odds(5) ? "_$" : "") + here.names++;
  }

  private <T> T pick(List<T> list) {
    return list.get(random.nextInt(list.size()));
  }

  private int smallWidth() {
    return slips() ? 1 + random.nextInt(64) : odds(3) ? 1 : 1 + random.nextInt(4);
  }

  private void range(int width) {
    if (width == 1 && !odds(8)) return;
    if (slips()) say("[" + random.nextInt(70) + ":" + random.nextInt(3) + "]");
    else say("[" + (odds(9) ? "0" : "") + (width - 1) + ":0]");
  }

  private void module(boolean top) {
    here = new Made();
    here.name = slips() && !made.isEmpty() ? pick(made).name : "m" + made.size();
    say("module");
    say(here.name);
    say("(");
    int inputBits = 0;
    int ports = random.nextInt(4);
    for (int i = 0; i < ports; i++) {
      if (i > 0) say(",");
      int w = smallWidth();
      if (odds(2)) {
        if (top && inputBits + w > 6 && !slips()) w = 1;
        inputBits += w;
        declare("input", "input", w, true);
      } else if (here.registerBits + w <= bits && odds(2)) {
        declare("output reg", "reg", w, true);
      } else {
        declare("output", "wire", odds(4) ? 1 + random.nextInt(64) : w, true);
      }
    }
    say(")");
    say(";");
    int items = random.nextInt(10);
    for (int i = 0; i < items; i++) item();
    int rest = here.undriven.size();
    for (int i = 0; i < rest; i++) if (!slips()) assign();
    say("endmodule");
    made.add(here);
  }

  private void declare(String words, String kind, int width, boolean port) {
    say(words);
    range(width);
    String name = newName();
    say(name);
    Decl d = new Decl(name, kind, width);
    here.all.add(d);
    if (port) here.ports.add(d);
    if (kind.equals("reg")) {
      here.registerBits += width;
      here.ready.add(d);
      if (odds(2)) {
        say("=");
        say(sized(slips() ? smallWidth() : width));
      }
    } else if (kind.equals("input")) {
      here.ready.add(d);
    } else {
      here.undriven.add(d);
    }
  }

  private void item() {
    switch (random.nextInt(9)) {
      case 0, 1 -> {
        declare("wire", "wire", odds(5) ? 1 + random.nextInt(64) : smallWidth(), false);
        say(";");
      }
      case 2 -> {
        int w = smallWidth();
        if (here.registerBits + w > bits && !slips()) return;
        declare("reg", "reg", w, false);
        say(";");
      }
      case 3, 4 -> assign();
      case 5, 6 -> always();
      case 7 -> {
        say("assert");
        say("(");
        exp(1 + random.nextInt(3), 4);
        say(")");
        say(";");
      }
      default -> instance();
    }
  }

  private void assign() {
    if (here.undriven.isEmpty()) return;
    Decl d = slips() ? pick(here.all) : here.undriven.remove(random.nextInt(here.undriven.size()));
    if (odds(15)) here.ready.add(d);
    say("assign");
    say(d.name);
    say("=");
    exp(slips() ? smallWidth() : d.width, 4);
    say(";");
    if (!here.ready.contains(d)) here.ready.add(d);
  }

  private void instance() {
    if (made.isEmpty()) return;
    Made type = pick(made);
    if (here.registerBits + type.registerBits > bits && !slips()) return;
    List<Decl> wires = new ArrayList<>();
    for (Decl p : type.ports) {
      if (p.kind.equals("input")) continue;
      declare("wire", "wire", p.width, false);
      say(";");
      wires.add(here.undriven.remove(here.undriven.size() - 1));
    }
    here.registerBits += type.registerBits;
    say(slips() ? "nosuch" : type.name);
    say(newName());
    say("(");
    List<Decl> order = new ArrayList<>(type.ports);
    if (odds(2)) java.util.Collections.shuffle(order, random);
    boolean later = false;
    boolean early = odds(6);
    if (early) here.ready.addAll(wires);
    for (Decl p : order) {
      if (slips()) continue;
      if (later) say(",");
      later = true;
      say(".");
      say(slips() ? pick(here.all.isEmpty() ? type.all : here.all).name : p.name);
      say("(");
      if (p.kind.equals("input") || slips()) {
        exp(slips() ? smallWidth() : p.width, 3);
      } else {
        int nth = 0;
        for (Decl q : type.ports) {
          if (q == p) break;
          if (!q.kind.equals("input")) nth++;
        }
        say(slips() ? pick(here.all).name : wires.get(nth).name);
      }
      say(")");
    }
    say(")");
    say(";");
    if (!early) here.ready.addAll(wires);
  }

  private void always() {
    List<Decl> mine = new ArrayList<>();
    for (Decl d : here.all) if (d.kind.equals("reg") && !d.name.endsWith("!") && odds(2)) mine.add(d);
    say("always");
    say("@");
    say("(");
    say("posedge");
    say("clock");
    say(")");
    statement(mine, 4);
    // Each register is set by one always only: the others do not see it any more.
    for (Decl d : mine) {
      if (slips()) continue;
      here.all.remove(d);
      here.all.add(new Decl(d.name, "set", d.width));
    }
  }

  private void statement(List<Decl> mine, int deep) {
    int kind = deep == 0 ? 3 : random.nextInt(6);
    switch (kind) {
      case 0, 1 -> {
        say("begin");
        int n = random.nextInt(4);
        for (int i = 0; i < n; i++) statement(mine, deep - 1);
        say("end");
      }
      case 2 -> {
        say("if");
        say("(");
        exp(1 + random.nextInt(3), 2);
        say(")");
        statement(mine, deep - 1);
        if (odds(2)) {
          say("else");
          statement(mine, deep - 1);
        }
      }
      case 4 -> choice(mine, deep);
      default -> {
        if (mine.isEmpty() && !slips()) {
          say("begin");
          say("end");
          return;
        }
        Decl d = mine.isEmpty() ? here.all.isEmpty() ? new Decl("q", "reg", 1) : pick(here.all) : pick(mine);
        say(d.name);
        int w = d.width;
        if (odds(3)) w = part(w);
        say("<=");
        exp(slips() ? smallWidth() : w, 3);
        say(";");
      }
    }
  }

  private void choice(List<Decl> mine, int deep) {
    int w = 1 + random.nextInt(2);
    say("case");
    say("(");
    exp(w, 2);
    say(")");
    int arms = random.nextInt(4);
    for (int i = 0; i < arms; i++) {
      say(sized(slips() ? 3 : w));
      while (odds(3)) {
        say(",");
        say(sized(w));
      }
      say(":");
      statement(mine, deep - 1);
    }
    if (odds(2)) {
      say("default");
      say(":");
      statement(mine, deep - 1);
    }
    say("endcase");
  }

  private int part(int width) {
    int low = random.nextInt(width);
    int high = low + random.nextInt(width - low);
    if (slips()) high += random.nextInt(3);
    if (slips()) low += random.nextInt(3);
    say("[");
    say((odds(9) ? "00" : "") + high);
    if (low != high || odds(3)) {
      say(":");
      say("" + low);
    }
    say("]");
    return Math.max(1, high - low + 1);
  }

  private String sized(int width) {
    java.math.BigInteger v = new java.math.BigInteger(width, random);
    if (odds(4)) v = java.math.BigInteger.valueOf(random.nextInt(2));
    if (odds(6)) v = java.math.BigInteger.ONE.shiftLeft(width).subtract(java.math.BigInteger.ONE);
    if (slips()) v = v.add(v).add(java.math.BigInteger.ONE);
    String zeros = odds(7) ? "00" : "";
    String w = (odds(9) ? "0" : "") + width;
    switch (random.nextInt(4)) {
      case 0: return w + "'b" + zeros + v.toString(2);
      case 1: return w + "'o" + zeros + v.toString(8);
      case 2: return w + "'h" + zeros + (odds(2) ? v.toString(16).toUpperCase() : v.toString(16));
      default: return w + "'d" + zeros + v;
    }
  }

  private void exp(int width, int deep) {
    if (deep > 0 && odds(6)) {
      operand(1 + random.nextInt(2), deep - 1);
      say("?");
      exp(width, deep - 1);
      say(":");
      exp(slips() ? smallWidth() : width, deep - 1);
    } else {
      operand(width, deep);
    }
  }

  private static final String[] ALIKE = {"+", "-", "&", "|", "^", "+", "-", "*"};
  private static final String[] ASKING = {"==", "!=", "<", "<=", ">", ">="};

  /** Without parentheses the ranks often make another exp of it, whose widths may not go together. */
  private void operand(int width, int deep) {
    if (deep == 0) {
      leaf(width);
      return;
    }
    boolean bare = odds(12);
    switch (random.nextInt(9)) {
      case 0, 1 -> {
        if (!bare) say("(");
        operand(width, deep - 1);
        say(ALIKE[random.nextInt(width > 8 ? 7 : 8)]);
        operand(slips() ? smallWidth() : width, deep - 1);
        if (!bare) say(")");
      }
      case 2 -> {
        say(odds(2) ? "~" : "-");
        operand(width, deep - 1);
      }
      case 3 -> {
        if (!bare) say("(");
        operand(width, deep - 1);
        say(odds(2) ? "<<" : ">>");
        operand(1 + random.nextInt(odds(5) ? 64 : 3), deep - 1);
        if (!bare) say(")");
      }
      case 4 -> {
        say("(");
        exp(width, deep - 1);
        say(")");
      }
      case 5 -> braces(width, deep);
      case 6 -> {
        if (width == 1) asking(deep);
        else braces(width, deep);
      }
      default -> leaf(width);
    }
  }

  private void asking(int deep) {
    int w = smallWidth();
    switch (random.nextInt(3)) {
      case 0 -> {
        say("!&|^".substring(random.nextInt(4)).substring(0, 1));
        operand(w, deep - 1);
      }
      case 1 -> {
        say("(");
        operand(w, deep - 1);
        say(ASKING[random.nextInt(6)]);
        operand(w, deep - 1);
        say(")");
      }
      default -> {
        say("(");
        operand(w, deep - 1);
        say(odds(2) ? "&&" : "||");
        operand(smallWidth(), deep - 1);
        say(")");
      }
    }
  }

  private void braces(int width, int deep) {
    say("{");
    int times = 1 + random.nextInt(4);
    if (width % times == 0 && odds(3)) {
      say("" + (slips() ? random.nextInt(70) : times));
      say("{");
      exp(width / times, deep - 1);
      say("}");
    } else {
      int rest = width;
      while (rest > 0) {
        int w = odds(2) ? rest : 1 + random.nextInt(rest);
        exp(w, deep - 1);
        rest -= w;
        if (rest > 0) say(",");
      }
    }
    say("}");
  }

  private void leaf(int width) {
    List<Decl> fits = new ArrayList<>();
    for (Decl d : here.ready) if (d.width == width) fits.add(d);
    if (slips() && !here.all.isEmpty()) {
      say(pick(here.all).name);
    } else if (!fits.isEmpty() && !odds(6)) {
      say(pick(fits).name);
    } else if (width == 1 && !here.ready.isEmpty() && odds(2)) {
      Decl d = pick(here.ready);
      say(d.name);
      say("[");
      if (odds(2)) say("" + random.nextInt(d.width));
      else exp(1 + random.nextInt(odds(6) ? 64 : 3), 1);
      say("]");
    } else {
      for (Decl d : here.ready) {
        if (d.width > width) {
          int low = random.nextInt(d.width - width + 1);
          say(d.name);
          say("[");
          say("" + (low + width - 1));
          say(":");
          say("" + low);
          say("]");
          return;
        }
      }
      say(sized(width));
    }
  }

  // ---------------------------------------------------------------- spoiling

  private static final String[] BITS = {"(", ")", "[", "]", "{", "}", ";", ",", ":", "?", "=", "<=", "<", ">", "&", "&&",
      "|", "||", "^", "~", "!", "-", "+", "*", "<<", ">>", "==", "!=", "@", ".", "module", "endmodule", "input", "output",
      "wire", "reg", "assign", "always", "posedge", "clock", "begin", "end", "if", "else", "case", "endcase", "default",
      "assert", "a0", "b1", "c2", "m0", "m1", "0", "1", "7", "63", "64", "65535", "65536", "1'b1", "2'd2", "4'hF", "4'hg",
      "0'b0", "65'd0", "64'hffffffffffffffff", "64'd18446744073709551615", "64'd18446744073709551616", "3'd8", "3'd7", "2'",
      "'", "#", "/", "//", "/*", "*/", "$", "\u00e4", "\u0000", "1_0", "1a", "1'b2", "8'o400", "8'o377", "_x", "\f"};

  /** Puts in, takes out or exchanges a few pieces of a text. */
  static String spoiled(String text, Random random) {
    StringBuilder s = new StringBuilder(text);
    int times = 1 + random.nextInt(2);
    for (int n = 0; n < times; n++) {
      int at = random.nextInt(s.length() + 1);
      int stop = Math.min(s.length(), at + 1 + random.nextInt(4));
      switch (random.nextInt(6)) {
        case 0 -> s.insert(at, BITS[random.nextInt(BITS.length)]);
        case 1 -> s.insert(at, " " + BITS[random.nextInt(BITS.length)] + " ");
        case 2 -> s.delete(at, stop);
        case 3 -> s.replace(at, stop, BITS[random.nextInt(BITS.length)]);
        case 4 -> exchangeWords(s, random);
        default -> {
          int from = random.nextInt(s.length() + 1);
          int to = Math.min(s.length(), from + random.nextInt(12));
          s.insert(at, s.substring(from, to));
        }
      }
    }
    return s.toString();
  }

  private static void exchangeWords(StringBuilder s, Random random) {
    String[] words = s.toString().split("(?<=[^A-Za-z0-9_$'])|(?=[^A-Za-z0-9_$'])");
    if (words.length < 2) return;
    int i = random.nextInt(words.length);
    int j = random.nextInt(words.length);
    String w = words[i];
    words[i] = words[j];
    if (random.nextBoolean()) words[j] = w;
    s.setLength(0);
    for (String x : words) s.append(x);
  }
}
