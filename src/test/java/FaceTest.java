/** Promises 1 to 5: the tape, reading, and the fault of the latest read. */
public final class FaceTest {
  private static final String GOOD = "module m(input a);reg r=1'b1;always@(posedge clock)r<=a;endmodule";

  public static void main(String[] args) {
    Bench b = new Bench("FaceTest");
    newObject(b);
    feedAndEnd(b);
    limits(b);
    readAndFault(b);
    manyReads(b);
    b.end();
  }

  private static void newObject(Bench b) {
    CircuitCycles x = new CircuitCycles();
    b.due("NONE", CircuitCycles.NONE, -1);
    b.due("fault before all", x.fault(), 0);
    b.dueThrow("end(1) of an empty tape", () -> x.end(1), IllegalArgumentException.class);
    b.dueThrow("count", () -> x.count(0), IllegalStateException.class);
    b.dueThrow("count of nothing", () -> x.count(9), IllegalStateException.class);
    b.dueThrow("find", x::find, IllegalStateException.class);
    b.dueThrow("signal", () -> x.signal(0, 0), IllegalStateException.class);
    b.dueThrow("signal of nothing", () -> x.signal(-1, 9), IllegalStateException.class);
    b.dueThrow("reset", x::reset, IllegalStateException.class);
    b.dueThrow("set", () -> x.set(-1, -1), IllegalStateException.class);
    b.dueThrow("step", x::step, IllegalStateException.class);
    b.dueThrow("value", () -> x.value(-1), IllegalStateException.class);
    b.dueThrow("failing", x::failing, IllegalStateException.class);
    b.due("read of nothing", x.read(), 0);
    b.due("fault of nothing", x.fault(), 2);
  }

  private static void feedAndEnd(Bench b) {
    CircuitCycles x = new CircuitCycles();
    b.due("feed", x.feed(0x6d6f6475, 0x6c65206d, 0x28293b65, 0x6e646d6f, 0x64756c65), 20);
    b.due("feed", x.feed(-1, -1, -1, -1, -1), 40);
    b.dueThrow("end(41)", () -> x.end(41), IllegalArgumentException.class);
    b.dueThrow("end(-1)", () -> x.end(-1), IllegalArgumentException.class);
    b.dueThrow("end(least)", () -> x.end(Integer.MIN_VALUE), IllegalArgumentException.class);
    x.end(40);
    x.end(20);
    b.dueThrow("end(21)", () -> x.end(21), IllegalArgumentException.class);
    b.due("read of the first twenty", x.read(), -1);
    b.dueThrow("end behind read", () -> x.end(1), IllegalArgumentException.class);
    b.due("feed behind read", x.feed(0, 0, 0, 0, 0), 20);
    x.end(0);
    b.due("read of none", x.read(), 0);
    b.due("its fault", x.fault(), 2);
    b.due("feed", x.feed(0x20202020, 0x20202020, 0x20202020, 0x20202020, 0x20ff2020), 20);
    b.due("read at a byte above 127", x.read(), 17);
    b.due("its fault", x.fault(), 1);
  }

  private static void limits(Bench b) {
    CircuitCycles x = new CircuitCycles();
    for (int i = 1; i <= 3276; i++) {
      int got = x.feed(0x20202020, 0x20202020, 0x20202020, 0x20202020, 0x20202020);
      if (got != 20 * i) b.due("feed " + i, got, 20 * i);
    }
    b.dueThrow("feed beyond 65536", () -> x.feed(1, 2, 3, 4, 5), UnsupportedOperationException.class);
    x.end(65517);
    b.dueThrow("feed to 65537", () -> x.feed(1, 2, 3, 4, 5), UnsupportedOperationException.class);
    x.end(65516);
    b.due("feed to 65536", x.feed(0x6d6f6475, 0x6c65206d, 0x28293b65, 0x6e646d6f, 0x64756c65), 65536);
    b.dueThrow("feed of a full tape", () -> x.feed(1, 2, 3, 4, 5), UnsupportedOperationException.class);
    b.due("read of a full tape", x.read(), -1);
    b.due("modules", x.count(0), 1);
  }

  /** What a read leaves behind is used again, and takes no room from the next one. */
  private static void manyReads(Bench b) {
    CircuitCycles x = new CircuitCycles();
    String text = "module s(input i,output o);assign o=~i&1'b1;assert(o|i);endmodule module m(input a);wire p;wire q;reg r=1'b1;"
        + "s u(.i(a),.o(p));s v(.i(p),.o(q));always@(posedge clock)case(q)1'b1:r<=1'b0;endcase endmodule";
    for (int n = 0; n < 200; n++) {
      b.due("read " + n, Bench.read(x, n % 3 == 1 ? text + "!" : text), n % 3 == 1 ? text.length() : -1);
      b.due("instances " + n, x.count(1), 2);
      b.due("q " + n, x.value(2), 0);
      x.set(0, 1);
      b.due("q " + n, x.value(2), 1);
      x.step();
      b.due("r " + n, x.value(3), 0);
      b.due("failing " + n, x.failing(), 0);
      x.reset();
    }
  }

  private static void readAndFault(Bench b) {
    CircuitCycles x = b.circuit(GOOD);
    x.set(0, 1);
    b.due("step", x.step(), 1);
    b.due("read of a fault", Bench.read(x, "module m(;"), 9);
    b.due("its fault", x.fault(), 2);
    b.due("the old input stays", x.value(0), 1);
    b.due("the old circuit goes on", x.step(), 2);
    b.due("read of a loop", Bench.read(x, "module m();wire w;assign w=w;endmodule"), 16);
    b.due("its fault", x.fault(), 45);
    b.due("the old circuit goes on", x.step(), 3);
    b.due("read of too much", Bench.read(x, "module m();reg [12:0] w;endmodule"), 7);
    b.due("its fault", x.fault(), 42);
    b.due("the old register stays", x.value(1), 1);
    b.due("the old circuit goes on", x.step(), 4);
    b.due("old names stay", Bench.find(x, "r"), 1);
    b.due("read of another one", Bench.read(x, "module n(input[1:0]q,input z);endmodule"), -1);
    b.due("its fault", x.fault(), 0);
    b.due("its signals", x.count(2), 2);
    b.due("its input", x.value(0), 0);
    b.due("its first cycle", x.step(), 1);
    b.due("the same one again", Bench.read(x, "module n(input[1:0]q,input z);endmodule"), -1);
    b.due("its first cycle again", x.step(), 1);
  }
}
