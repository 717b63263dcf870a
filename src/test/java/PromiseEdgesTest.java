import java.lang.reflect.Constructor;
import java.lang.reflect.Field;
import java.lang.reflect.Method;
import java.lang.reflect.Modifier;
import java.util.TreeSet;

/** The public face and promises 1 to 13: each sentence that names an edge, with the answers on both of its sides. */
public final class PromiseEdgesTest {
  private static final Bench B = new Bench("PromiseEdgesTest");
  private static final int FULL = 65536;
  private static final int LEAST = Integer.MIN_VALUE;
  private static final int MOST = Integer.MAX_VALUE;
  private static final Class<IllegalStateException> STATE = IllegalStateException.class;
  private static final Class<IllegalArgumentException> ARGUMENT = IllegalArgumentException.class;
  private static final Class<IndexOutOfBoundsException> INDEX = IndexOutOfBoundsException.class;
  private static final Class<UnsupportedOperationException> TOO_MUCH = UnsupportedOperationException.class;
  private static final String EDGE = "always@(posedge clock)";
  /** Signals: a, b (inputs), o, w (driven), r (register), u.i, u.q. */
  private static final String GOOD = "module s(input i,output reg q);" + EDGE + "q<=i;assert(q);endmodule "
      + "module m(input[2:0]a,input b,output o);wire w;reg[1:0]r=2'd2;assign o=b;" + EDGE + "r<=a[1:0];s u(.i(o),.q(w));assert(r);endmodule";

  public static void main(String[] args) {
    face();
    newObject();
    feed();
    feedBytes();
    fullTape();
    end();
    endOfAll();
    endHidesTheRest();
    readEmpties();
    readReplaces();
    readFullTapes();
    readRefuses();
    fault();
    counts();
    countsOfLittle();
    countRefused();
    find();
    findNothing();
    findEmpties();
    findLong();
    findWithoutCircuit();
    signals();
    signalRefused();
    reset();
    set();
    setRefused();
    setFromNowOn();
    step();
    stepsInARow();
    values();
    valueRefused();
    failing();
    manyCalls();
    B.end();
  }

  private static void face() {
    B.says("public static final int NONE = -1;");
    B.due("NONE", CircuitCycles.NONE, -1);
    B.says("public final class CircuitCycles");
    TreeSet<String> seen = new TreeSet<>();
    for (Method m : CircuitCycles.class.getDeclaredMethods()) if (!Modifier.isPrivate(m.getModifiers())) seen.add(m.toString());
    for (Field f : CircuitCycles.class.getDeclaredFields()) if (!Modifier.isPrivate(f.getModifiers())) seen.add(f.toString());
    for (Constructor<?> c : CircuitCycles.class.getDeclaredConstructors()) seen.add(c.toString());
    TreeSet<String> want = new TreeSet<>();
    want.add("public static final int CircuitCycles.NONE");
    want.add("public CircuitCycles()");
    String s = "java.lang.IllegalStateException";
    String a = "java.lang.IllegalArgumentException";
    String i = "java.lang.IndexOutOfBoundsException";
    want.add("public int CircuitCycles.feed(int,int,int,int,int) throws java.lang.UnsupportedOperationException");
    want.add("public void CircuitCycles.end(int) throws " + a);
    want.add("public int CircuitCycles.read()");
    want.add("public int CircuitCycles.fault()");
    want.add("public int CircuitCycles.count(int) throws " + s + "," + a);
    want.add("public int CircuitCycles.find() throws " + s);
    want.add("public int CircuitCycles.signal(int,int) throws " + s + "," + i + "," + a);
    want.add("public void CircuitCycles.reset() throws " + s);
    want.add("public void CircuitCycles.set(int,int) throws " + s + "," + i + "," + a);
    want.add("public int CircuitCycles.step() throws " + s);
    want.add("public long CircuitCycles.value(int) throws " + s + "," + i);
    want.add("public int CircuitCycles.failing() throws " + s);
    B.dueText("the face", seen.toString(), want.toString());
    B.due("public and final", CircuitCycles.class.getModifiers(), Modifier.PUBLIC | Modifier.FINAL);
    for (Class<?> c : CircuitCycles.class.getDeclaredClasses()) {
      B.due(c + " is static", Modifier.isStatic(c.getModifiers()) ? 1 : 0, 1);
      B.due(c + " is not public", c.getModifiers() & (Modifier.PUBLIC | Modifier.PROTECTED), 0);
    }
  }

  private static void newObject() {
    B.says("`CircuitCycles()`: An empty tape, no circuit.");
    CircuitCycles x = new CircuitCycles();
    B.dueThrow("end(1)", () -> x.end(1), ARGUMENT);
    x.end(0);
    B.due("fault", x.fault(), 0);
    B.dueThrow("count", () -> x.count(0), STATE);
    B.dueThrow("find", x::find, STATE);
    B.dueThrow("signal", () -> x.signal(0, 0), STATE);
    B.dueThrow("reset", x::reset, STATE);
    B.dueThrow("set", () -> x.set(0, 0), STATE);
    B.dueThrow("step", x::step, STATE);
    B.dueThrow("value", () -> x.value(0), STATE);
    B.dueThrow("failing", x::failing, STATE);
    B.due("read", x.read(), 0);
    B.due("fault of nothing", x.fault(), 2);
    B.dueThrow("step", x::step, STATE);
    // Another object has nothing to do with it.
    CircuitCycles y = B.circuit(GOOD);
    CircuitCycles z = new CircuitCycles();
    B.dueThrow("step of a third one", z::step, STATE);
    B.due("step", y.step(), 1);
  }

  private static int blanks(CircuitCycles x) {
    return x.feed(0x20202020, 0x20202020, 0x20202020, 0x20202020, 0x20202020);
  }

  private static void feed() {
    B.says("Twenty bytes more of the tape, the highest of each number first: how many it has.");
    CircuitCycles x = new CircuitCycles();
    for (int n = 1; n <= 5; n++) B.due("feed", blanks(x), 20 * n);
    x.end(7);
    B.due("feed behind end", blanks(x), 27);
    x.end(0);
    B.due("feed behind end(0)", blanks(x), 20);
    x.read();
    B.due("feed behind read", blanks(x), 20);
    CircuitCycles y = B.circuit(GOOD);
    blanks(y);
    y.find();
    B.due("feed behind find", blanks(y), 20);
  }

  /** Each byte of each number, at its place: all but one are blanks, and that one is no token's. */
  private static void feedBytes() {
    for (int at = 0; at < 20; at++) {
      for (int odd : new int[] {0, 1, 127, 128, 200, 255}) {
        CircuitCycles x = new CircuitCycles();
        int[] words = {0x20202020, 0x20202020, 0x20202020, 0x20202020, 0x20202020};
        int shift = 24 - 8 * (at % 4);
        words[at / 4] = words[at / 4] & ~(255 << shift) | odd << shift;
        x.feed(words[0], words[1], words[2], words[3], words[4]);
        B.due("place of byte " + at, x.read(), at);
        B.due("its fault", x.fault(), 1);
      }
    }
    CircuitCycles x = new CircuitCycles();
    x.feed(0x6d6f6475, 0x6c65206d, 0x28293b65, 0x6e646d6f, 0x64756c65);
    B.due("module m();endmodule", x.read(), -1);
  }

  private static void fullTape() {
    B.says("UnsupportedOperationException: they would be more than 65536.");
    CircuitCycles x = new CircuitCycles();
    for (int n = 1; n <= 3276; n++) B.due("feed", blanks(x), 20 * n);
    B.dueThrow("65520 and 20", () -> blanks(x), TOO_MUCH);
    for (int size = 65516; size < 65520; size++) {
      int n = size;
      CircuitCycles y = new CircuitCycles();
      Bench.feed(y, Bench.bytes(" ".repeat(n)), 0);
      if (n == 65516) B.due("65516 and 20", blanks(y), FULL);
      else B.dueThrow(n + " and 20", () -> blanks(y), TOO_MUCH);
      B.due("read of what it has", y.read(), n == 65516 ? FULL : n);
    }
    CircuitCycles z = new CircuitCycles();
    Bench.feed(z, Bench.bytes(Bench.padded("module m();", "endmodule", FULL)), 0);
    for (int n = 0; n < 3; n++) B.dueThrow("feed of a full tape", () -> z.feed(-1, -1, -1, -1, -1), TOO_MUCH);
    B.due("read of a full tape", z.read(), -1);
    B.due("feed behind it", blanks(z), 20);
  }

  private static void end() {
    B.says("The tape keeps its first n bytes. IllegalArgumentException: n is below 0, or it has not so many.");
    CircuitCycles x = new CircuitCycles();
    blanks(x);
    for (int n : new int[] {-1, -2, LEAST, 21, 22, 40, FULL, MOST}) B.dueThrow("end(" + n + ")", () -> x.end(n), ARGUMENT);
    x.end(20);
    B.dueThrow("end(21)", () -> x.end(21), ARGUMENT);
    x.end(19);
    B.dueThrow("end(20)", () -> x.end(20), ARGUMENT);
    x.end(1);
    x.end(1);
    B.dueThrow("end(2)", () -> x.end(2), ARGUMENT);
    x.end(0);
    x.end(0);
    B.dueThrow("end(1)", () -> x.end(1), ARGUMENT);
    B.dueThrow("end(-1)", () -> x.end(-1), ARGUMENT);
    // The first ones, and not the last ones.
    CircuitCycles y = new CircuitCycles();
    Bench.feed(y, Bench.bytes("module m();endmodule $$$$$$$$$$"), 0);
    y.end(20);
    B.due("read of the first ones", y.read(), -1);
  }

  private static void endOfAll() {
    CircuitCycles x = new CircuitCycles();
    Bench.feed(x, Bench.bytes(Bench.padded("module m();", "endmodule", FULL)), 0);
    B.dueThrow("end(65537)", () -> x.end(FULL + 1), ARGUMENT);
    x.end(FULL);
    B.due("read", x.read(), -1);
    B.dueThrow("end(1) behind read", () -> x.end(1), ARGUMENT);
    Bench.feed(x, Bench.bytes("a"), 0);
    x.find();
    B.dueThrow("end(1) behind find", () -> x.end(1), ARGUMENT);
  }

  /** Bytes that the tape has had behind its end are no part of it, though they would make another token. */
  private static void endHidesTheRest() {
    B.says("The tape keeps its first n bytes.");
    String[][] pairs = {{"module m();endmodul", "e"}, {"module m();endmodule", "x"}, {"module m();endmodule", "$"}, {"module m();endmodule", "0"},
        {"module m();endmodule 6553", "6"}, {"module m();endmodule 1", "'b2"}, {"module m();endmodule 1'b1", "1"}, {"module m();endmodule 1'b", "1"},
        {"module m();endmodule/", "/"}, {"module m();endmodule/*", "*/"}, {"module m();endmodule/* *", "/"}, {"module m();endmodule//", "\nx"},
        {"module m();endmodule //x", "\n$"}, {"module m();endmodule", " ;"}, {"module m();endmodule ", "module n();endmodule"}, {"module m(", ");endmodule"},
        {"", "module m();endmodule"}, {"module m();assert(1'b1", ");endmodule"}, {"module m();endmodule =", "="}, {"module m();endmodule ", "/*"}};
    for (String[] pair : pairs) {
      CircuitCycles x = new CircuitCycles();
      CircuitCycles y = new CircuitCycles();
      Bench.feed(x, Bench.bytes(pair[0]), 0);
      Bench.feed(y, Bench.bytes(pair[0] + pair[1]), 0);
      y.end(pair[0].length());
      B.due("read of " + pair[0] + " without " + pair[1], y.read(), x.read());
      B.due("its fault", y.fault(), x.fault());
      // The same behind a longer text that was read before.
      for (int n = 0; n < 2; n++) {
        Bench.read(y, "module m();endmodule" + "/*".repeat(n) + " ".repeat(40));
        Bench.read(y, pair[0] + pair[1]);
        B.due("read of " + pair[0] + " behind one with " + pair[1], Bench.read(y, pair[0]), Bench.read(x, pair[0]));
        B.due("its fault", y.fault(), x.fault());
      }
    }
    // The same of names.
    CircuitCycles z = B.circuit(GOOD);
    Bench.find(z, "u.q");
    B.due("find u", Bench.find(z, "u"), -1);
    Bench.find(z, "au.q");
    B.due("find a", Bench.find(z, "a"), 0);
  }

  private static void readEmpties() {
    B.says("The tape is read, and is empty then");
    for (String text : new String[] {GOOD, "", "$", ";", "module m();assert(z);endmodule", "module m();reg[12:0]r;endmodule", "module m();wire w;assign w=w;endmodule"}) {
      CircuitCycles x = new CircuitCycles();
      Bench.read(x, text);
      B.dueThrow("end(1) behind " + text, () -> x.end(1), ARGUMENT);
      B.due("read of nothing", x.read(), 0);
      B.due("its fault", x.fault(), 2);
      B.due("feed", blanks(x), 20);
    }
  }

  private static void readReplaces() {
    B.says("if it has no fault it is the circuit, in place of the one there was, in cycle 0, all inputs 0");
    CircuitCycles x = B.circuit(GOOD);
    B.due("instances", x.count(1), 1);
    x.set(0, 7);
    x.set(1, 1);
    x.step();
    x.step();
    B.due("read of another one", Bench.read(x, "module n(input[2:0]p,input q);reg[1:0]t=2'd1;" + EDGE + "t<=p[1:0];endmodule"), -1);
    B.due("instances", x.count(1), 0);
    B.due("signals", x.count(2), 3);
    B.due("p", x.value(0), 0);
    B.due("q", x.value(1), 0);
    B.due("t", x.value(2), 1);
    B.due("step", x.step(), 1);
    B.due("t", x.value(2), 0);
    B.dueThrow("value(3)", () -> x.value(3), INDEX);
    B.due("an old name", Bench.find(x, "a"), -1);
    B.due("a new name", Bench.find(x, "t"), 2);
    x.set(0, 7);
    x.step();
    // The same text again begins anew.
    B.due("read of the same", Bench.read(x, "module n(input[2:0]p,input q);reg[1:0]t=2'd1;" + EDGE + "t<=p[1:0];endmodule"), -1);
    B.due("p", x.value(0), 0);
    B.due("t", x.value(2), 1);
    B.due("step", x.step(), 1);
    B.due("read of one with what is not 0 at first", Bench.read(x, "module n(input a,output o);assign o=~a;assert(o);endmodule"), -1);
    x.set(0, 1);
    B.due("o", x.value(1), 0);
    B.due("failing", x.failing(), 1);
    B.due("read of the same", Bench.read(x, "module n(input a,output o);assign o=~a;assert(o);endmodule"), -1);
    B.due("o at first", x.value(1), 1);
    B.due("failing at first", x.failing(), 0);
    B.due("read of the least", Bench.read(x, "module m();endmodule"), -1);
    B.dueThrow("value(0)", () -> x.value(0), INDEX);
  }

  /** Full tapes of one kind of things after the other: each leaves as much room for the next ones, be it a circuit or not. */
  private static void readFullTapes() {
    B.says("The tape is read, and is empty then: if it has no fault it is the circuit, in place of the one there was");
    String links = Bench.repeated(",.p%(a)", 0, 200).substring(1);
    String[][] fills = {{"module f(input a);", "reg %=1'b1;"}, {"module f(input a);", "assert(a);"}, {"module f(input a);assert(1'b0", "|1'b1"},
        {"module e();endmodule module f(input a);", "e %();"}, {"module e(" + Bench.repeated(",input p%", 0, 200).substring(1) + ");endmodule module f(input a);", "e %(" + links + ");"},
        {"module f(input a);reg r;", EDGE + "begin end "}, {"module f(input a);reg r;", EDGE + "if(a)case(a)1'b1:begin end endcase "}};
    CircuitCycles x = new CircuitCycles();
    for (int n = 0; n < 8 * fills.length; n++) {
      String[] fill = fills[n / 8];
      String top = (n / 8 == 2 ? ");" : "") + "endmodule module m(input z" + n + ");wire y;assign y=~z" + n + "&1'b1;assert(y);endmodule";
      StringBuilder text = new StringBuilder(fill[0]);
      for (int i = 0; text.length() + fill[1].length() + top.length() + 10 < FULL; i++) text.append(fill[1].replace("%", Bench.word(i) + n));
      text.append(top);
      boolean isRead = n % 3 != 2;
      if (!isRead) text.append(";");
      int latest = isRead ? n : n - 1;
      B.due("read " + n, Bench.read(x, text.toString()), isRead ? -1 : text.length() - 1);
      B.due("signals of " + n, x.count(2), 2);
      B.due("asserts of " + n, x.count(5), 1);
      B.due("find z" + latest, Bench.find(x, "z" + latest), 0);
      B.due("find y of " + n, Bench.find(x, "y"), 1);
      B.due("y of " + n, x.value(1), 1);
      B.due("failing of " + n, x.failing(), 0);
      B.due("step of " + n, x.step(), isRead ? 1 : 2);
    }
  }

  private static void readRefuses() {
    B.says("NONE, or the place of its fault: then the circuit that there was stays as it is.");
    String[] texts = {"", "#$", "#;", "module m();assert(" + "(".repeat(59) + "#(", "module m();endmodule module #m();endmodule", "module m();reg r;reg #r;endmodule",
        "module m();assert(#z);endmodule", "module s(input i);endmodule module m();s u(.#j(1'b1));endmodule", "module s(input i);endmodule module m();s #u();endmodule",
        "module s(output o);assign o=1'b1;endmodule module m();s u(.o(#1'b1));endmodule", "module m();reg#[64:0]r;endmodule",
        "module m();wire w;assign w=1'b1;assign #w=1'b1;endmodule", "module m();reg r;" + EDGE + "r<=r;" + EDGE + "#r<=r;endmodule", "module m();wire #w;endmodule",
        "module e();endmodule module #m();" + Bench.repeated("e u%();", 0, 257) + "endmodule", "module #m();" + Bench.repeated("reg r%;", 0, 1025) + "endmodule",
        "module #m();reg[12:0]r;endmodule", "module #m(input[6:0]i);endmodule", "module #m();assert(" + "~".repeat(1501) + "1'b1);endmodule",
        "module #m(input[5:0]a);reg[11:0]r;assert(64'd1);assert(1'b1);endmodule", "module m();wire #w;assign w=w;endmodule"};
    int[] codes = {2, 1, 2, 3, 20, 21, 22, 23, 24, 25, 30, 31, 32, 33, 40, 41, 42, 43, 44, 46, 45};
    CircuitCycles x = B.circuit(GOOD);
    CircuitCycles y = B.circuit(GOOD);
    for (int i = 0; i < texts.length; i++) {
      x.set(0, i % 8);
      y.set(0, i % 8);
      x.set(1, i % 2);
      y.set(1, i % 2);
      B.due("read of " + texts[i], Bench.read(x, texts[i].replace("#", "")), Math.max(0, texts[i].indexOf('#')));
      B.due("its fault", x.fault(), codes[i]);
      B.dueText("the circuit behind it", Bench.run(x), Bench.run(y));
      B.dueFault(codes[i], texts[i]);
    }
  }

  private static void fault() {
    B.says("The code of the fault of the latest read(); 0 if it had none, or there was none.");
    CircuitCycles x = new CircuitCycles();
    B.due("before all", x.fault(), 0);
    blanks(x);
    B.due("behind feed", x.fault(), 0);
    x.read();
    B.due("behind a read", x.fault(), 2);
    B.due("again", x.fault(), 2);
    Bench.read(x, "$");
    B.due("of the latest one", x.fault(), 1);
    Bench.read(x, GOOD);
    B.due("without a fault", x.fault(), 0);
    Bench.read(x, "module m();reg[12:0]r;endmodule");
    B.due("with a circuit", x.fault(), 42);
    x.step();
    x.reset();
    Bench.find(x, "a");
    blanks(x);
    x.end(3);
    B.due("behind other calls", x.fault(), 42);
    x.end(0);
    Bench.read(x, GOOD);
    B.due("without a fault", x.fault(), 0);
  }

  private static void counts() {
    B.says("How many: what = 0 modules (of the text), 1 instances (the top not), 2 signals, 3 bits of registers, 4 bits of inputs, 5 asserts (of all"
        + " instances), 6 the cost.");
    CircuitCycles x = B.circuit("module unused(input[63:0]z);reg[63:0]r;assert(z*z);endmodule " + GOOD);
    int[] want = {3, 1, 7, 3, 4, 2, 1 + 1 + 2 + 2};
    for (int what = 0; what < 7; what++) B.due("count(" + what + ")", x.count(what), want[what]);
    x.set(0, 7);
    x.step();
    for (int what = 0; what < 7; what++) B.due("count(" + what + ") in another cycle", x.count(what), want[what]);
  }

  private static void countsOfLittle() {
    CircuitCycles x = B.circuit("module m();endmodule");
    for (int what = 0; what < 7; what++) B.due("count(" + what + ") of the least", x.count(what), what == 0 ? 1 : 0);
    CircuitCycles y = B.circuit("module e();assert(1'b1);endmodule module m();" + Bench.repeated("e u%();", 0, 256) + "assert(1'b0);endmodule");
    B.due("instances", y.count(1), 256);
    B.due("asserts", y.count(5), 257);
    B.due("cost", y.count(6), 257);
    B.due("failing", y.failing(), 1);
  }

  private static void countRefused() {
    B.says("IllegalStateException; IllegalArgumentException: what is none of these.");
    CircuitCycles none = new CircuitCycles();
    CircuitCycles x = B.circuit(GOOD);
    for (int what : new int[] {-1, 7, 8, 100, LEAST, MOST}) {
      B.dueThrow("count(" + what + ") without a circuit", () -> none.count(what), STATE);
      B.dueThrow("count(" + what + ")", () -> x.count(what), ARGUMENT);
    }
    for (int what = 0; what < 7; what++) {
      int w = what;
      B.dueThrow("count(" + what + ") without a circuit", () -> none.count(w), STATE);
    }
  }

  private static void find() {
    B.says("The signal whose name is the tape, byte by byte (no blanks), which is empty then: names of instances, from the top on, each with a . behind"
        + " it, then its own; NONE.");
    CircuitCycles x = B.circuit(GOOD);
    String[] names = {"a", "b", "o", "w", "r", "u.i", "u.q"};
    for (int i = 0; i < names.length; i++) B.due("find " + names[i], Bench.find(x, names[i]), i);
    CircuitCycles y = B.circuit("module s(input a);endmodule module n(input a);s a_(.a(a));s b(.a(a));endmodule module m(input a);n a_(.a(a));n b(.a(a));endmodule");
    String[] deep = {"a", "a_.a", "a_.a_.a", "a_.b.a", "b.a", "b.a_.a", "b.b.a"};
    for (int i = 0; i < deep.length; i++) B.due("find " + deep[i], Bench.find(y, deep[i]), i);
    for (int i = 0; i < deep.length; i++) {
      for (int at = 0; at <= deep[i].length(); at++) {
        for (String more : new String[] {" ", "\n", ".", "$", "\u0000", "x"}) {
          String spoiled = deep[i].substring(0, at) + more + deep[i].substring(at);
          B.due("find '" + spoiled + "'", Bench.find(y, spoiled), -1);
        }
      }
    }
  }

  private static void findNothing() {
    CircuitCycles x = B.circuit(GOOD);
    for (String name : new String[] {"", ".", "..", " ", "a.", ".a", "u", "u.", "u.u", "u.a", "u.i.", "m", "m.a", "s", "s.i", "A", "aa", "a b", "i", "q", "u..i",
        "u.i.i", "u .i", "u. i", "module", "a,input", "a\u0000", "\u00e1"}) {
      B.due("find '" + name + "'", Bench.find(x, name), -1);
    }
    CircuitCycles y = B.circuit("module m();endmodule");
    for (String name : new String[] {"", "m", "a", "."}) B.due("find '" + name + "' in nothing", Bench.find(y, name), -1);
  }

  private static void findEmpties() {
    CircuitCycles x = B.circuit(GOOD);
    for (String name : new String[] {"a", "u.i", "zzz", ""}) {
      Bench.find(x, name);
      B.dueThrow("end(1) behind find of " + name, () -> x.end(1), ARGUMENT);
      B.due("feed behind find of " + name, blanks(x), 20);
      x.end(0);
    }
    // What stood on the tape behind its end is no part of it.
    Bench.feed(x, Bench.bytes("u.q"), 0);
    x.end(1);
    B.due("find u", x.find(), -1);
    Bench.feed(x, Bench.bytes("ab"), 0);
    x.end(1);
    B.due("find a", x.find(), 0);
    x.end(0);
    B.due("find of nothing", x.find(), -1);
  }

  private static void findLong() {
    String name = "n".repeat(65536 - "module m(input ,input a);endmodule".length());
    CircuitCycles x = B.circuit("module m(input " + name + ",input a);endmodule");
    B.due("find the longest name", Bench.find(x, name), 0);
    B.due("find one that is shorter", Bench.find(x, name.substring(1)), -1);
    B.due("find one that is longer", Bench.find(x, name + "n"), -1);
    B.due("find a full tape", Bench.find(x, "n".repeat(FULL)), -1);
    B.due("find a full tape of points", Bench.find(x, ".".repeat(FULL)), -1);
    B.due("find a", Bench.find(x, "a"), 1);
  }

  private static void findWithoutCircuit() {
    B.says("which is empty then: names of instances, from the top on, each with a . behind it, then its own; NONE. IllegalStateException.");
    CircuitCycles x = new CircuitCycles();
    B.dueThrow("find", x::find, STATE);
    Bench.feed(x, Bench.bytes("module m();endmodule"), 0);
    B.dueThrow("find", x::find, STATE);
    B.due("read of what stayed on the tape", x.read(), -1);
  }

  private static void signals() {
    B.says("Of a signal: what = 0 its width, 1 whether it is an input (of the top; 0), a register (2), or another one (1), 2 the place where it is declared"
        + " (of its NAME's first byte).");
    CircuitCycles x = B.circuit(GOOD);
    int[] widths = {3, 1, 1, 1, 2, 1, 1};
    int[] sorts = {0, 0, 1, 1, 2, 1, 2};
    String[] declared = {"a,input b", "b,output o", "o);wire", "w;reg", "r=2'd2", "i,output reg", "q);always"};
    for (int s = 0; s < 7; s++) {
      B.due("width of " + s, x.signal(s, 0), widths[s]);
      B.due("sort of " + s, x.signal(s, 1), sorts[s]);
      B.due("place of " + s, x.signal(s, 2), GOOD.indexOf(declared[s]));
    }
    CircuitCycles y = B.circuit("module m(output[63:0]o,output[0:0]p);assign o=64'd0;assign p=1'b0;endmodule");
    B.due("the greatest width", y.signal(0, 0), 64);
    B.due("the least width", y.signal(1, 0), 1);
    CircuitCycles z = B.circuit(Bench.padded("module m(output o);assign o=1'b0;reg", "r;endmodule", FULL));
    B.due("a place at the end", z.signal(1, 2), FULL - 11);
  }

  private static void signalRefused() {
    B.says("IllegalStateException; IndexOutOfBoundsException; IllegalArgumentException: what is none of these.");
    CircuitCycles none = new CircuitCycles();
    CircuitCycles x = B.circuit(GOOD);
    CircuitCycles full = B.circuit("module m();" + Bench.repeated("wire w%;assign w%=1'b0;", 0, 1024) + "endmodule");
    B.due("the last of 1024", full.signal(1023, 0), 1);
    int[] odd = {-1, 3, 4, LEAST, MOST};
    for (int s : new int[] {-1, 7, 8, 1023, 1024, LEAST, MOST}) {
      for (int what : new int[] {0, 2, -1, 3}) {
        B.dueThrow("signal without a circuit", () -> none.signal(s, what), STATE);
        B.dueThrow("signal(" + s + ", " + what + ")", () -> x.signal(s, what), INDEX);
      }
      if (s != 7 && s != 8 && s != 1023) B.dueThrow("signal(" + s + ") of 1024", () -> full.signal(s, 0), INDEX);
    }
    for (int what : odd) {
      B.dueThrow("signal(0, " + what + ")", () -> x.signal(0, what), ARGUMENT);
      B.dueThrow("signal(6, " + what + ")", () -> x.signal(6, what), ARGUMENT);
    }
    B.dueThrow("signal(0, 0) without a circuit", () -> none.signal(0, 0), STATE);
  }

  private static void reset() {
    B.says("The circuit is in cycle 0, all inputs 0. IllegalStateException.");
    CircuitCycles x = B.circuit(GOOD);
    CircuitCycles y = B.circuit(GOOD);
    x.reset();
    x.reset();
    x.set(0, 7);
    x.set(1, 1);
    B.due("step", x.step(), 1);
    B.due("step", x.step(), 2);
    B.due("r", x.value(4), 3);
    x.reset();
    B.due("a", x.value(0), 0);
    B.due("b", x.value(1), 0);
    B.due("o", x.value(2), 0);
    B.due("r", x.value(4), 2);
    B.due("u.q", x.value(6), 0);
    B.dueText("all else", Bench.run(x), Bench.run(y));
    x.set(0, 5);
    x.reset();
    B.due("a without a step", x.value(0), 0);
    B.due("step", x.step(), 1);
    CircuitCycles not = B.circuit("module m(input a,output o);assign o=~a;assert(o);endmodule");
    not.set(0, 1);
    B.due("o", not.value(1), 0);
    not.reset();
    B.due("o behind reset", not.value(1), 1);
    not.set(0, 1);
    B.due("failing", not.failing(), 1);
    not.reset();
    B.due("failing behind reset", not.failing(), 0);
    CircuitCycles none = new CircuitCycles();
    B.dueThrow("reset without a circuit", none::reset, STATE);
    Bench.read(none, "$");
    B.dueThrow("reset behind a fault", none::reset, STATE);
  }

  private static void set() {
    B.says("An input has a value from now on.");
    for (int w = 1; w <= 6; w++) {
      CircuitCycles x = B.circuit("module m(input[" + (w - 1) + ":0]a,output[" + (w - 1) + ":0]o);assign o=~a;endmodule");
      int above = 1 << w;
      for (int v = 0; v < above; v++) {
        x.set(0, v);
        B.due("a", x.value(0), v);
        B.due("o", x.value(1), above - 1 - v);
      }
      for (int v : new int[] {above, above + 1, 2 * above, 256, FULL, -1, -above, LEAST, LEAST + 1, MOST}) {
        B.dueThrow("set(0, " + v + ") of " + w + " bits", () -> x.set(0, v), ARGUMENT);
        B.due("a as it was", x.value(0), above - 1);
      }
    }
  }

  private static void setRefused() {
    B.says("IllegalStateException; IndexOutOfBoundsException; IllegalArgumentException: it is no input, or the value is below 0 or not below 2 to its width.");
    CircuitCycles none = new CircuitCycles();
    CircuitCycles x = B.circuit(GOOD);
    for (int value : new int[] {0, 1, -1, 8, MOST, LEAST}) {
      for (int s = 2; s < 7; s++) {
        int t = s;
        B.dueThrow("set(" + s + ", " + value + ")", () -> x.set(t, value), ARGUMENT);
      }
      for (int s : new int[] {-1, 7, 8, 1023, 1024, LEAST, MOST}) {
        B.dueThrow("set(" + s + ", " + value + ")", () -> x.set(s, value), INDEX);
        B.dueThrow("set(" + s + ", " + value + ") without a circuit", () -> none.set(s, value), STATE);
      }
    }
    B.dueThrow("set(0, 0) without a circuit", () -> none.set(0, 0), STATE);
    x.set(0, 7);
    B.dueThrow("set(0, 8)", () -> x.set(0, 8), ARGUMENT);
    x.set(1, 1);
    B.dueThrow("set(1, 2)", () -> x.set(1, 2), ARGUMENT);
    B.due("a", x.value(0), 7);
    B.due("b", x.value(1), 1);
  }

  private static void setFromNowOn() {
    CircuitCycles x = B.circuit(GOOD);
    x.set(0, 5);
    B.due("at once", x.value(0), 5);
    B.due("not another one", x.value(1), 0);
    for (int n = 1; n < 4; n++) {
      x.step();
      B.due("in cycle " + n, x.value(0), 5);
      B.due("r in cycle " + n, x.value(4), 1);
    }
    x.set(0, 6);
    B.due("the register not yet", x.value(4), 1);
    x.set(0, 7);
    x.step();
    B.due("the value of last", x.value(4), 3);
    x.set(0, 0);
    B.due("back to 0", x.value(0), 0);
  }

  private static void step() {
    B.says("The next cycle, inputs as they are: its number. IllegalStateException.");
    CircuitCycles x = B.circuit(GOOD);
    x.set(1, 1);
    B.due("step", x.step(), 1);
    B.due("b", x.value(1), 1);
    B.due("u.q", x.value(6), 1);
    B.due("w", x.value(3), 1);
    B.due("r", x.value(4), 0);
    B.due("step", x.step(), 2);
    CircuitCycles none = new CircuitCycles();
    B.dueThrow("step without a circuit", none::step, STATE);
    Bench.read(none, "module m();wire w;assign w=w;endmodule");
    B.dueThrow("step behind a fault", none::step, STATE);
    B.due("step of the least", B.circuit("module m();endmodule").step(), 1);
    // Without asking between them.
    CircuitCycles y = B.circuit("module m(input a);reg p;reg q;reg r;" + EDGE + "begin p<=a;q<=p;r<=q;end endmodule");
    y.set(0, 1);
    y.step();
    y.set(0, 0);
    y.step();
    y.step();
    B.due("p, q, r", y.value(1) + 2 * y.value(2) + 4 * y.value(3), 4);
  }

  private static void stepsInARow() {
    CircuitCycles x = new CircuitCycles();
    x.feed(0x6d6f6475, 0x6c65206d, 0x28293b65, 0x6e646d6f, 0x64756c65);
    x.read();
    for (int n = 1; n <= 510; n++) B.due("step", x.step(), n);
  }

  private static void values() {
    B.says("The value of a signal now (as 64 bits).");
    for (String digits : new String[] {"0", "1", "7fffffffffffffff", "8000000000000000", "8000000000000001", "fffffffffffffffe", "ffffffffffffffff"}) {
      CircuitCycles x = B.circuit("module m(output[63:0]o);assign o=64'h" + digits + ";endmodule");
      B.due("value of " + digits, x.value(0), Long.parseUnsignedLong(digits, 16));
    }
    for (String digits : new String[] {"7fffffff", "80000000", "ffffffff"}) {
      CircuitCycles x = B.circuit("module m(output[31:0]o);assign o=32'h" + digits + ";endmodule");
      B.due("value of " + digits, x.value(0), Long.parseLong(digits, 16));
    }
    CircuitCycles x = B.circuit("module m();" + Bench.repeated("wire[9:0]w%;assign w%=10'd%;", 0, 1024) + "endmodule");
    for (int s = 0; s < 1024; s++) B.due("value(" + s + ")", x.value(s), s);
  }

  private static void valueRefused() {
    B.says("IllegalStateException; IndexOutOfBoundsException.");
    CircuitCycles none = new CircuitCycles();
    CircuitCycles x = B.circuit(GOOD);
    CircuitCycles least = B.circuit("module m();endmodule");
    B.due("value(6)", x.value(6), 0);
    for (int s : new int[] {-1, 7, 8, 1023, 1024, LEAST, MOST}) {
      B.dueThrow("value(" + s + ") without a circuit", () -> none.value(s), STATE);
      B.dueThrow("value(" + s + ")", () -> x.value(s), INDEX);
      B.dueThrow("value(" + s + ") of the least", () -> least.value(s), INDEX);
    }
    B.dueThrow("value(0) without a circuit", () -> none.value(0), STATE);
    B.dueThrow("value(0) of the least", () -> least.value(0), INDEX);
  }

  private static void failing() {
    B.says("How many asserts do not hold now. IllegalStateException.");
    CircuitCycles x = B.circuit(GOOD);
    B.due("failing", x.failing(), 1);
    B.due("again", x.failing(), 1);
    x.set(1, 1);
    B.due("not before the next cycle", x.failing(), 1);
    x.step();
    B.due("u holds, the top does not", x.failing(), 1);
    x.set(0, 1);
    x.step();
    B.due("both hold", x.failing(), 0);
    x.set(0, 4);
    x.set(1, 0);
    x.step();
    B.due("neither holds", x.failing(), 2);
    x.reset();
    B.due("behind reset", x.failing(), 1);
    B.due("of none", B.circuit("module m();endmodule").failing(), 0);
    CircuitCycles y = B.circuit("module e(input i);assert(i);endmodule module m(input a);" + Bench.repeated("e u%(.i(a));", 0, 256) + "assert(!a);endmodule");
    B.due("of many", y.failing(), 256);
    y.set(0, 1);
    B.due("at once", y.failing(), 1);
    CircuitCycles none = new CircuitCycles();
    B.dueThrow("failing without a circuit", none::failing, STATE);
  }

  private static void manyCalls() {
    B.says("An object is used for at most 512 calls after it has been made");
    CircuitCycles x = new CircuitCycles();
    String text = Bench.padded("module m(input a);reg[7:0]r;" + EDGE + "r<=r+8'd1;", "endmodule", 20 * 300);
    for (int n = 0; n < 300; n++) {
      byte[] bytes = Bench.bytes(text.substring(20 * n, 20 * n + 20));
      int[] w = new int[5];
      for (int i = 0; i < 20; i++) w[i / 4] = (w[i / 4] << 8) | bytes[i];
      B.due("feed", x.feed(w[0], w[1], w[2], w[3], w[4]), 20 * n + 20);
    }
    B.due("read", x.read(), -1);
    for (int n = 1; n <= 210; n++) B.due("step", x.step(), n);
    B.due("the 512th call", x.value(1), 210);
  }
}
