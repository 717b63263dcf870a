import java.util.ArrayList;
import java.util.List;

/**
 * The end of 'Terms': which exception counts when several would do, and that a call that throws
 * changes nothing. Two objects go the same way; one of them also gets calls that are refused, and
 * must answer everything as the other one does.
 */
public final class RefusedCallsTest {
  private static final Bench B = new Bench("RefusedCallsTest");
  private static final int FULL = 65536;
  private static final int LEAST = Integer.MIN_VALUE;
  private static final int MOST = Integer.MAX_VALUE;
  private static final Class<IllegalStateException> STATE = IllegalStateException.class;
  private static final Class<IllegalArgumentException> ARGUMENT = IllegalArgumentException.class;
  private static final Class<IndexOutOfBoundsException> INDEX = IndexOutOfBoundsException.class;
  private static final Class<UnsupportedOperationException> TOO_MUCH = UnsupportedOperationException.class;
  private static final String TEXT = "module s(input i,output reg q);always@(posedge clock)q<=i;assert(q);endmodule "
      + "module m(input[2:0]a,input b,output o);wire w;reg[1:0]r=2'd2;assign o=b;always@(posedge clock)r<=r+a[1:0];s u(.i(o),.q(w));assert(r);endmodule";
  private static final String OTHER = "module n(input z,output[7:0]y);assign y={8{z}};endmodule";
  private static final int SIGNALS = 7;

  public static void main(String[] args) {
    firstNamed();
    changesNothing();
    B.end();
  }

  /** What is done with a new object to bring it where the refused calls are tried. */
  private enum Way {
    NEW, SOME_TAPE, FULL_TAPE, FAULT, CIRCUIT, LATER_CYCLE, CIRCUIT_AND_NAME, CIRCUIT_AND_TEXT, CIRCUIT_AND_FULL_TAPE, CIRCUIT_AND_FAULT, SET_ALONE;

    CircuitCycles go() {
      CircuitCycles x = new CircuitCycles();
      if (hasCircuit()) Bench.read(x, TEXT);
      switch (this) {
        case SOME_TAPE: Bench.feed(x, Bench.bytes(TEXT), 0); break;
        case FULL_TAPE:
        case CIRCUIT_AND_FULL_TAPE: Bench.feed(x, Bench.bytes(Bench.padded("module m();", "endmodule", FULL)), 0); break;
        case FAULT:
        case CIRCUIT_AND_FAULT: Bench.read(x, "module m(input[6:0]a);endmodule"); break;
        case LATER_CYCLE: later(x); break;
        case CIRCUIT_AND_NAME: Bench.feed(x, Bench.bytes("u.q"), 0); break;
        case CIRCUIT_AND_TEXT:
          later(x);
          Bench.feed(x, Bench.bytes(OTHER), 0);
          break;
        case SET_ALONE:
          x.set(0, 3);
          x.set(1, 1);
          break;
        default: break;
      }
      return x;
    }

    private static void later(CircuitCycles x) {
      x.set(0, 5);
      x.step();
      x.set(1, 1);
      x.step();
      x.step();
    }

    boolean hasCircuit() {
      return this != NEW && this != SOME_TAPE && this != FULL_TAPE && this != FAULT;
    }

    boolean isFull() {
      return this == FULL_TAPE || this == CIRCUIT_AND_FULL_TAPE;
    }

    int tape() {
      if (isFull()) return FULL;
      return this == SOME_TAPE ? TEXT.length() : this == CIRCUIT_AND_NAME ? 3 : this == CIRCUIT_AND_TEXT ? OTHER.length() : 0;
    }
  }

  /** A call that is refused there, with what it throws. */
  private static final class Refused {
    final String what;
    final Bench.Call call;
    final Class<? extends RuntimeException> thrown;

    Refused(String what, Bench.Call call, Class<? extends RuntimeException> thrown) {
      this.what = what;
      this.call = call;
      this.thrown = thrown;
    }
  }

  private static List<Refused> refused(CircuitCycles x, Way way) {
    List<Refused> all = new ArrayList<>();
    if (way.isFull()) all.add(new Refused("feed", () -> x.feed(1, 2, 3, 4, 5), TOO_MUCH));
    for (int n : new int[] {-1, LEAST, way.tape() + 1, way.tape() + 20, FULL + 1, MOST}) {
      all.add(new Refused("end(" + n + ")", () -> x.end(n), ARGUMENT));
    }
    if (way.hasCircuit()) addAsked(all, x);
    else addWithoutCircuit(all, x);
    return all;
  }

  /** Whatever else may be wrong with the arguments. */
  private static void addWithoutCircuit(List<Refused> all, CircuitCycles x) {
    all.add(new Refused("find", x::find, STATE));
    all.add(new Refused("reset", x::reset, STATE));
    all.add(new Refused("step", x::step, STATE));
    all.add(new Refused("failing", x::failing, STATE));
    for (int p : new int[] {0, 6, -1, 7, LEAST, MOST}) {
      all.add(new Refused("count(" + p + ")", () -> x.count(p), STATE));
      all.add(new Refused("value(" + p + ")", () -> x.value(p), STATE));
      for (int q : new int[] {0, 2, -1, 3, LEAST, MOST}) {
        all.add(new Refused("signal(" + p + ", " + q + ")", () -> x.signal(p, q), STATE));
        all.add(new Refused("set(" + p + ", " + q + ")", () -> x.set(p, q), STATE));
      }
    }
  }

  private static void addAsked(List<Refused> all, CircuitCycles x) {
    for (int what : new int[] {-1, 7, LEAST, MOST}) all.add(new Refused("count(" + what + ")", () -> x.count(what), ARGUMENT));
    for (int s : new int[] {-1, SIGNALS, 1024, LEAST, MOST}) {
      all.add(new Refused("value(" + s + ")", () -> x.value(s), INDEX));
      for (int q : new int[] {0, 1, -1, 3, 8, LEAST, MOST}) {
        all.add(new Refused("signal(" + s + ", " + q + ")", () -> x.signal(s, q), INDEX));
        all.add(new Refused("set(" + s + ", " + q + ")", () -> x.set(s, q), INDEX));
      }
    }
    for (int s = 0; s < SIGNALS; s++) {
      int t = s;
      for (int q : new int[] {-1, 3, LEAST, MOST}) all.add(new Refused("signal(" + s + ", " + q + ")", () -> x.signal(t, q), ARGUMENT));
      for (int q : new int[] {-1, 8, 256, LEAST, MOST}) all.add(new Refused("set(" + s + ", " + q + ")", () -> x.set(t, q), ARGUMENT));
      if (s >= 2) all.add(new Refused("set(" + s + ", 0)", () -> x.set(t, 0), ARGUMENT));
    }
    all.add(new Refused("set(1, 2)", () -> x.set(1, 2), ARGUMENT));
  }

  private static void firstNamed() {
    B.says("Methods throw what their comments name, the one named first when several would do. IllegalStateException, where nothing else is said: there is no"
        + " circuit. IndexOutOfBoundsException: there is no such signal.");
    for (Way way : Way.values()) {
      CircuitCycles x = way.go();
      for (Refused r : refused(x, way)) B.dueThrow(r.what + " in " + way, r.call, r.thrown);
    }
  }

  private static void changesNothing() {
    B.says("A call that throws changes nothing.");
    for (Way way : Way.values()) {
      int count = refused(way.go(), way).size();
      // Each of them alone, and then all of them together.
      for (int one = 0; one <= count; one++) {
        CircuitCycles x = way.go();
        CircuitCycles y = way.go();
        List<Refused> calls = refused(x, way);
        String what = one < count ? calls.get(one).what : "all";
        for (Refused r : one < count ? calls.subList(one, one + 1) : calls) B.dueThrow(r.what + " in " + way, r.call, r.thrown);
        B.dueText("all answers behind " + what + " in " + way, answers(x, way), answers(y, way));
      }
    }
  }

  /** Everything that can be asked of an object, and what becomes of it in some cycles and with its tape. */
  private static String answers(CircuitCycles x, Way way) {
    StringBuilder s = new StringBuilder("fault " + x.fault());
    if (way.hasCircuit()) {
      for (int n = 0; n < 3; n++) {
        addCircuit(s, x);
        s.append(" step ").append(x.step());
      }
    }
    x.end(way.tape());
    if (way == Way.CIRCUIT_AND_NAME) s.append(" find ").append(x.find());
    if (!way.isFull()) s.append(" feed ").append(x.feed(0x20202020, 0x20202020, 0x20202020, 0x20202020, 0x20202020));
    s.append(" read ").append(x.read()).append(" fault ").append(x.fault());
    if (way.hasCircuit() || x.fault() == 0) {
      addCircuit(s, x);
      x.reset();
      addCircuit(s, x);
    }
    return s.toString();
  }

  private static void addCircuit(StringBuilder s, CircuitCycles x) {
    for (int what = 0; what < 7; what++) s.append(' ').append(x.count(what));
    for (int i = 0; i < x.count(2); i++) {
      for (int what = 0; what < 3; what++) s.append(' ').append(x.signal(i, what));
      s.append(" = ").append(x.value(i));
    }
    s.append(" failing ").append(x.failing());
  }
}
