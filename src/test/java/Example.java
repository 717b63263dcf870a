import java.nio.ByteBuffer;
import java.nio.charset.StandardCharsets;
import java.util.Arrays;

/** The example of README.md: a counter that is said never to be 3. */
public final class Example {
  private static final String TEXT =
      "module counter(input up, output reg [3:0] n = 4'd1);\n"
      + "  always @(posedge clock) if (up) n <= n + 4'd1;\n"
      + "  assert(n != 4'd3);\n"
      + "endmodule\n"
      + "module top(input a, output [3:0] sum);\n"
      + "  counter c(.up(a), .n(sum));\n"
      + "endmodule\n";

  public static void main(String[] args) {
    CircuitCycles x = new CircuitCycles();
    feed(x, TEXT);
    System.out.println("read() answers " + x.read() + ", fault() " + x.fault());

    feed(x, "a");
    int a = x.find();
    feed(x, "c.n");
    int n = x.find();
    System.out.println("a is signal " + a + ", c.n is signal " + n + " of " + x.count(2));

    System.out.println("cycle 0: c.n is " + x.value(n) + ", asserts that do not hold: " + x.failing());
    x.set(a, 1);
    for (int i = 0; i < 3; i++) {
      int cycle = x.step();
      System.out.println("cycle " + cycle + ": c.n is " + x.value(n) + ", asserts that do not hold: " + x.failing());
    }

    feed(x, "module other(input a; endmodule");
    int place = x.read();
    System.out.println("fault " + x.fault() + " at place " + place + "; c.n is still " + x.value(n));
    try {
      x.set(n, 1);
    } catch (IllegalArgumentException e) {
      System.out.println("c.n is no input of the top");
    }
  }

  /** Onto an empty tape; end() cuts off what the last feed() brings too much. */
  private static void feed(CircuitCycles x, String text) {
    byte[] bytes = text.getBytes(StandardCharsets.ISO_8859_1);
    ByteBuffer row = ByteBuffer.wrap(Arrays.copyOf(bytes, bytes.length + 20));
    for (int at = 0; at < bytes.length; at += 20) {
      x.feed(row.getInt(at), row.getInt(at + 4), row.getInt(at + 8), row.getInt(at + 12), row.getInt(at + 16));
    }
    x.end(bytes.length);
  }
}
