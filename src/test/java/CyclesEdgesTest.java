import java.math.BigInteger;
import java.util.ArrayList;
import java.util.List;

/** Part 5 of the document, CYCLES: each sentence that names an edge, with the answers on both of its sides. */
public final class CyclesEdgesTest {
  private static final Bench B = new Bench("CyclesEdgesTest");
  private static final BigInteger ONE = BigInteger.ONE;
  private static final int[] WIDTHS = {1, 2, 3, 31, 32, 33, 38, 63, 64};
  private static final String EDGE = "always@(posedge clock)";

  public static void main(String[] args) {
    modulo();
    modulos();
    negation();
    compared();
    bitwise();
    shifts();
    allBits();
    asked();
    indices();
    parts();
    braces();
    repeats();
    runBegins();
    registersWrap();
    inputsFollow();
    asserts();
    thisCyclesValues();
    setLater();
    setBitByBit();
    unset();
    cases();
    conditions();
    B.end();
  }

  /** Exps with the values that are due; as many of them as may be are asked in one circuit. */
  private static final class Sheet {
    private static final int MOST = 1000;
    private final List<String> exps = new ArrayList<>();
    private final List<BigInteger> wants = new ArrayList<>();
    private final StringBuilder items = new StringBuilder();
    private int cost;

    void add(int width, String exp, BigInteger want, int costs) {
      if (cost + costs > MOST || exps.size() == 400) ask();
      String name = "o" + exps.size();
      items.append("wire[" + (width - 1) + ":0]" + name + ";assign " + name + "=" + exp + ";");
      exps.add(exp);
      wants.add(want);
      cost += costs;
    }

    void ask() {
      CircuitCycles x = B.circuit("module m();" + items + "endmodule");
      for (int i = 0; i < exps.size(); i++) B.due(exps.get(i), x.value(i), wants.get(i).longValue());
      exps.clear();
      wants.clear();
      items.setLength(0);
      cost = 0;
    }
  }

  private static BigInteger power(int width) {
    return BigInteger.TWO.pow(width);
  }

  /** The least and the greatest values of a width, and those round its middle. */
  private static List<BigInteger> values(int width) {
    List<BigInteger> found = new ArrayList<>();
    BigInteger half = power(width - 1);
    BigInteger[] all = {BigInteger.ZERO, ONE, BigInteger.TWO, half.subtract(ONE), half, half.add(ONE), power(width).subtract(BigInteger.TWO), power(width).subtract(ONE)};
    for (BigInteger v : all) {
      if (v.signum() >= 0 && v.compareTo(power(width)) < 0 && !found.contains(v)) found.add(v);
    }
    return found;
  }

  private static String sized(int width, BigInteger value) {
    return width + "'h" + value.toString(16);
  }

  private static BigInteger bit(boolean yes) {
    return yes ? ONE : BigInteger.ZERO;
  }

  private static void modulo() {
    B.says("All values are whole numbers from 0 on, below 2 to the width");
    Sheet sheet = new Sheet();
    for (int w : WIDTHS) {
      String most = sized(w, power(w).subtract(ONE));
      sheet.add(w, most, power(w).subtract(ONE), 0);
      sheet.add(w, w + "'d0", BigInteger.ZERO, 0);
      sheet.add(w, "~" + w + "'d0", power(w).subtract(ONE), w);
      sheet.add(w, "~" + most, BigInteger.ZERO, w);
    }
    sheet.ask();
  }

  private static void modulos() {
    B.says("+ - * and - before modulo that");
    Sheet sheet = new Sheet();
    for (int w : WIDTHS) {
      for (BigInteger a : values(w)) {
        for (BigInteger b : values(w)) {
          String p = sized(w, a);
          String q = sized(w, b);
          sheet.add(w, p + "+" + q, a.add(b).mod(power(w)), w);
          sheet.add(w, p + "-" + q, a.subtract(b).mod(power(w)), w);
          if (w * w <= 1500) sheet.add(w, p + "*" + q, a.multiply(b).mod(power(w)), w * w);
        }
      }
    }
    sheet.ask();
  }

  private static void negation() {
    B.says("- before modulo that");
    Sheet sheet = new Sheet();
    for (int w : WIDTHS) {
      for (BigInteger a : values(w)) sheet.add(w, "-" + sized(w, a), a.negate().mod(power(w)), w);
    }
    sheet.ask();
  }

  private static void compared() {
    B.says("All values are whole numbers from 0 on");
    Sheet sheet = new Sheet();
    for (int w : WIDTHS) {
      for (BigInteger a : values(w)) {
        for (BigInteger b : values(w)) {
          String p = sized(w, a);
          String q = sized(w, b);
          int order = a.compareTo(b);
          sheet.add(1, p + "==" + q, bit(order == 0), w);
          sheet.add(1, p + "!=" + q, bit(order != 0), w);
          sheet.add(1, p + "<" + q, bit(order < 0), w);
          sheet.add(1, p + "<=" + q, bit(order <= 0), w);
          sheet.add(1, p + ">" + q, bit(order > 0), w);
          sheet.add(1, p + ">=" + q, bit(order >= 0), w);
        }
      }
    }
    sheet.ask();
  }

  private static void bitwise() {
    Sheet sheet = new Sheet();
    for (int w : WIDTHS) {
      for (BigInteger a : values(w)) {
        for (BigInteger b : values(w)) {
          String p = sized(w, a);
          String q = sized(w, b);
          sheet.add(w, p + "&" + q, a.and(b), w);
          sheet.add(w, p + "|" + q, a.or(b), w);
          sheet.add(w, p + "^" + q, a.xor(b), w);
        }
      }
    }
    sheet.ask();
  }

  /** Numbers of bits to move by: round each width, and those that are small again in 6, 8, 16, 32 and 63 bits. */
  private static List<BigInteger> moves(int width) {
    List<BigInteger> found = new ArrayList<>();
    for (int n = 0; n < 3; n++) found.add(BigInteger.valueOf(n));
    for (int n = -1; n < 2; n++) found.add(BigInteger.valueOf(width + n));
    for (int bits : new int[] {6, 7, 8, 16, 31, 32, 33, 62, 63}) {
      found.add(power(bits).subtract(ONE));
      found.add(power(bits));
      found.add(power(bits).add(ONE));
    }
    found.add(power(64).subtract(ONE));
    found.add(power(64).subtract(BigInteger.valueOf(64)));
    return found;
  }

  private static BigInteger moved(BigInteger a, BigInteger by, int width, boolean left) {
    if (by.compareTo(BigInteger.valueOf(64)) >= 0) return BigInteger.ZERO;
    return left ? a.shiftLeft(by.intValue()).mod(power(width)) : a.shiftRight(by.intValue());
  }

  private static void shifts() {
    B.says("<< >> move by the second one, what falls out is lost, and 0 comes in (also when it is 64 or more)");
    Sheet sheet = new Sheet();
    for (int w : WIDTHS) {
      for (BigInteger a : values(w)) {
        for (BigInteger by : moves(w)) {
          sheet.add(w, sized(w, a) + "<<" + sized(64, by), moved(a, by, w, true), 3 * w + 64);
          sheet.add(w, sized(w, a) + ">>" + sized(64, by), moved(a, by, w, false), 3 * w + 64);
        }
      }
    }
    sheet.add(64, "64'd1<<6'd63", power(63), 200);
    sheet.add(64, "64'd1<<7'd64", BigInteger.ZERO, 200);
    sheet.add(64, "64'd1<<7'd127", BigInteger.ZERO, 200);
    sheet.add(1, "1'd1<<1'd1", BigInteger.ZERO, 4);
    sheet.add(1, "1'd1>>1'd1", BigInteger.ZERO, 4);
    sheet.add(1, "1'd1<<1'd0", ONE, 4);
    sheet.ask();
  }

  private static void allBits() {
    B.says("& | ^ before are all bits together, ! is 1 for 0, else 0");
    Sheet sheet = new Sheet();
    for (int w : WIDTHS) {
      for (BigInteger a : values(w)) {
        String p = sized(w, a);
        sheet.add(1, "&" + p, bit(a.equals(power(w).subtract(ONE))), w);
        sheet.add(1, "|" + p, bit(a.signum() != 0), w);
        sheet.add(1, "^" + p, bit(a.bitCount() % 2 == 1), w);
        sheet.add(1, "!" + p, bit(a.signum() == 0), w);
      }
    }
    sheet.ask();
  }

  private static void asked() {
    B.says("&& || ask for other than 0, ? likewise");
    Sheet sheet = new Sheet();
    for (int w : WIDTHS) {
      for (BigInteger a : values(w)) {
        for (BigInteger b : values(w)) {
          String p = sized(w, a);
          String q = sized(w, b);
          sheet.add(1, p + "&&" + q, bit(a.signum() != 0 && b.signum() != 0), w);
          sheet.add(1, p + "||" + q, bit(a.signum() != 0 || b.signum() != 0), w);
          sheet.add(w, p + "?" + p + ":" + q, a.signum() != 0 ? a : b, w);
        }
      }
    }
    sheet.ask();
  }

  private static void indices() {
    B.says("NAME [ exp ] is bit exp, 0 beyond the width");
    for (int w : WIDTHS) {
      for (BigInteger a : new BigInteger[] {power(w).subtract(ONE), power(w - 1), ONE, BigInteger.ZERO}) {
        List<BigInteger> at = moves(w);
        dueBits(w, a, at.subList(0, 20));
        dueBits(w, a, at.subList(20, at.size()));
      }
    }
  }

  private static void dueBits(int width, BigInteger a, List<BigInteger> at) {
    StringBuilder items = new StringBuilder("wire[" + (width - 1) + ":0]a;assign a=" + sized(width, a) + ";");
    for (int i = 0; i < at.size(); i++) items.append("wire i" + i + ";assign i" + i + "=a[" + sized(64, at.get(i)) + "];");
    CircuitCycles x = B.circuit("module m();" + items + "endmodule");
    for (int i = 0; i < at.size(); i++) {
      boolean set = at.get(i).compareTo(BigInteger.valueOf(width)) < 0 && a.testBit(at.get(i).intValue());
      B.due("bit " + at.get(i) + " of " + a + " with " + width + " bits", x.value(i + 1), set ? 1 : 0);
    }
  }

  private static void parts() {
    B.says("[ h : l ] bits h down to l");
    BigInteger a = new BigInteger("fedcba9876543210", 16);
    for (int h : new int[] {0, 1, 31, 32, 62, 63}) {
      StringBuilder items = new StringBuilder("wire[63:0]a;assign a=64'hfedcba9876543210;");
      for (int l = 0; l <= h; l++) items.append("wire[" + (h - l) + ":0]p" + l + ";assign p" + l + "=a[" + h + ":" + l + "];");
      CircuitCycles x = B.circuit("module m();" + items + "wire q;assign q=a[" + h + "];endmodule");
      for (int l = 0; l <= h; l++) B.due("[" + h + ":" + l + "]", x.value(l + 1), a.shiftRight(l).mod(power(h - l + 1)).longValue());
      B.due("[" + h + "]", x.value(h + 2), a.testBit(h) ? 1 : 0);
    }
  }

  private static void braces() {
    B.says("{ a , b } has a above b.");
    Sheet sheet = new Sheet();
    for (int w = 1; w < 64; w++) {
      BigInteger a = power(w).subtract(ONE);
      BigInteger b = power(63 - w).add(ONE).mod(power(64 - w));
      sheet.add(64, "{" + sized(w, a) + "," + sized(64 - w, b) + "}", a.shiftLeft(64 - w).add(b), 0);
      sheet.add(64, "{" + w + "'d0," + sized(64 - w, b) + "}", b, 0);
      sheet.add(64, "{" + sized(w, a) + "," + (64 - w) + "'d0}", a.shiftLeft(64 - w), 0);
    }
    sheet.add(64, "{64'h8000000000000001}", power(63).add(ONE), 0);
    sheet.add(3, "{1'b1,1'b0,1'b1}", BigInteger.valueOf(5), 0);
    sheet.add(6, "{2'd1,{2'd2,2'd3}}", BigInteger.valueOf(27), 0);
    sheet.add(6, "{{2'd1,2'd2},2'd3}", BigInteger.valueOf(27), 0);
    sheet.add(64, "{" + "1'b1,1'b0,".repeat(31) + "1'b1,1'b1}", new BigInteger("aaaaaaaaaaaaaaab", 16), 0);
    sheet.ask();
  }

  private static void repeats() {
    Sheet sheet = new Sheet();
    for (int w : WIDTHS) {
      for (BigInteger a : values(w)) {
        for (int n : new int[] {1, 2, 64 / w}) {
          if (n * w > 64) continue;
          BigInteger row = BigInteger.ZERO;
          for (int i = 0; i < n; i++) row = row.shiftLeft(w).add(a);
          sheet.add(n * w, "{" + n + "{" + sized(w, a) + "}}", row, 0);
        }
      }
    }
    sheet.ask();
  }

  private static void runBegins() {
    B.says("A RUN begins in cycle 0 with registers as they begin (0 where nothing is said).");
    CircuitCycles x = B.circuit("module s(output reg[2:0]q=3'd7,output reg p);endmodule module m(output reg f=1'b1);reg e;reg z=1'b0;reg[2:0]g=3'd4;"
        + "wire[2:0]v;wire w;s u(.q(v),.p(w));endmodule");
    long[] want = {1, 0, 0, 4, 7, 0, 7, 0};
    for (int s = 0; s < want.length; s++) B.due("signal " + s + " at first", x.value(s), want[s]);
    B.due("the cycle behind it", x.step(), 1);
    for (int s = 0; s < want.length; s++) B.due("signal " + s + " without an always", x.value(s), want[s]);
    B.dueValue(B.circuit("module m();reg[11:0]r=12'hfff;endmodule"), "r", 4095);
  }

  private static void registersWrap() {
    for (int w = 1; w <= 12; w++) {
      String most = sized(w, power(w).subtract(ONE));
      CircuitCycles up = B.circuit("module m();reg[" + (w - 1) + ":0]r=" + most + ";" + EDGE + "r<=r+" + w + "'d1;endmodule");
      up.step();
      B.due("above the most of " + w + " bits", up.value(0), 0);
      up.step();
      B.due("one more of " + w + " bits", up.value(0), 1);
      CircuitCycles down = B.circuit("module m();reg[" + (w - 1) + ":0]r;" + EDGE + "r<=r-" + w + "'d1;endmodule");
      down.step();
      B.due("below 0 of " + w + " bits", down.value(0), (1 << w) - 1);
    }
    CircuitCycles x = B.circuit("module m();reg[7:0]r;" + EDGE + "r<=r+8'd1;endmodule");
    for (int n = 1; n <= 500; n++) {
      B.due("step", x.step(), n);
      B.due("r", x.value(0), n % 256);
    }
  }

  private static void inputsFollow() {
    B.says("In each cycle inputs have any values, and all else follows");
    CircuitCycles x = B.circuit("module s(input[5:0]i,output[5:0]o);assign o=~i;endmodule module m(input[5:0]a,output[5:0]p);s u(.i(a),.o(p));endmodule");
    for (int v = 0; v < 64; v++) {
      x.set(0, v);
      B.due("p with " + v, x.value(1), 63 - v);
      B.due("u.i with " + v, x.value(2), v);
      if (v % 8 == 0) x.step();
    }
  }

  private static void asserts() {
    B.says("an ASSERT holds if its exp is not 0");
    B.due("failing", B.circuit("module m();endmodule").failing(), 0);
    B.due("failing", B.circuit("module m();assert(1'b0);endmodule").failing(), 1);
    B.due("failing", B.circuit("module m();assert(1'b1);endmodule").failing(), 0);
    B.due("failing", B.circuit("module m();assert(64'd0);endmodule").failing(), 1);
    for (int bit = 0; bit < 64; bit++) B.due("failing", B.circuit("module m();assert(" + sized(64, power(bit)) + ");endmodule").failing(), 0);
    B.due("failing", B.circuit("module m();" + "assert(1'b0);assert(1'b1);".repeat(700) + "endmodule").failing(), 700);
  }

  private static void thisCyclesValues() {
    B.says("Then each always sets registers for the next cycle: all exps are of this cycle's values");
    CircuitCycles x = B.circuit("module m();reg a=1'b1;reg b;reg c;" + EDGE + "begin a<=b;b<=a;if(a)c<=b;else c<=1'b1;case(b)1'b1:c<=1'b0;endcase end endmodule");
    x.step();
    B.due("a", x.value(0), 0);
    B.due("b", x.value(1), 1);
    B.due("c", x.value(2), 0);
    CircuitCycles y = B.circuit("module m();reg a=1'b1;reg b;" + EDGE + "a<=b;" + EDGE + "b<=a;endmodule");
    y.step();
    B.due("a of two", y.value(0), 0);
    B.due("b of two", y.value(1), 1);
    // Across instances, too: a row of three that hands on its first value.
    String cell = "module s(input i,output reg q);" + EDGE + "q<=i;endmodule ";
    CircuitCycles z = B.circuit(cell + "module m(input a);wire p;wire q;wire r;s u(.i(a),.q(p));s v(.i(p),.q(q));s w(.i(q),.q(r));endmodule");
    z.set(0, 1);
    for (int n = 1; n <= 4; n++) {
      z.step();
      B.due("p, q, r in cycle " + n, z.value(1) + 2 * z.value(2) + 4 * z.value(3), (1 << Math.min(n, 3)) - 1);
    }
  }

  private static long stepped(String statements) {
    CircuitCycles x = B.circuit("module m();reg[11:0]r=12'h5a5;" + EDGE + "begin " + statements + "end endmodule");
    x.step();
    return x.value(0);
  }

  private static void setLater() {
    B.says("statements go from the left, and what is set later counts, bit by bit");
    B.due("twice", stepped("r<=12'd1;r<=12'd2;"), 2);
    B.due("three times", stepped("r<=12'd1;r<=12'd2;r<=12'd3;"), 3);
    B.due("a part later", stepped("r<=12'd0;r[3:0]<=4'd15;"), 15);
    B.due("all later", stepped("r[3:0]<=4'd15;r<=12'd0;"), 0);
    B.due("a bit in a part", stepped("r[3:0]<=4'd15;r[1]<=1'b0;"), 0x5ad);
    B.due("a part over a bit", stepped("r[1]<=1'b0;r[3:0]<=4'd15;"), 0x5af);
    B.due("parts that overlap", stepped("r[7:0]<=8'd255;r[11:4]<=8'd0;"), 15);
    B.due("very many", stepped("r[0]<=1'b0;".repeat(1400) + "r[1]<=1'b1;"), 0x5a6);
    B.due("all behind a part that is not the lowest", stepped("r[11:4]<=8'd0;r<=12'hfff;"), 0xfff);
    B.due("all behind the highest bit", stepped("r[11]<=1'b0;r<=12'h801;"), 0x801);
    B.due("behind an if", stepped("if(r[0])r[0]<=1'b0;r[0]<=1'b1;"), 0x5a5);
    B.due("in an if", stepped("r[0]<=1'b1;if(r[0])r[0]<=1'b0;"), 0x5a4);
  }

  private static void setBitByBit() {
    for (int bit = 0; bit < 12; bit++) {
      B.due("bit " + bit + " 0", stepped("r[" + bit + "]<=1'b0;"), 0x5a5 & ~(1 << bit));
      B.due("bit " + bit + " 1", stepped("r[" + bit + "]<=1'b1;"), 0x5a5 | 1 << bit);
      for (int low = 0; low <= bit; low++) {
        int mask = (1 << (bit + 1)) - (1 << low);
        String part = "r[" + bit + ":" + low + "]<=";
        B.due(part + "0", stepped(part + (bit - low + 1) + "'d0;"), 0x5a5 & ~mask);
        B.due(part + "ones", stepped(part + "{" + (bit - low + 1) + "{1'b1}};"), 0x5a5 | mask);
      }
    }
  }

  private static void unset() {
    B.says("what is not set stays");
    B.due("nothing", stepped(""), 0x5a5);
    B.due("not taken", stepped("if(1'b0)r<=12'd0;"), 0x5a5);
    B.due("no arm", stepped("case(r)12'd0:r<=12'd1;endcase "), 0x5a5);
    B.due("another bit", stepped("r[11]<=1'b1;"), 0xda5);
    CircuitCycles x = B.circuit("module m();reg a=1'b1;reg b=1'b1;" + EDGE + "b<=1'b0;endmodule");
    x.step();
    B.due("a", x.value(0), 1);
    B.due("b", x.value(1), 0);
  }

  private static void cases() {
    B.says("case goes to the first SIZED that is the same as its exp, else to default, if there is one.");
    B.due("the first of two", stepped("case(2'd1)2'd1:r<=12'd1;2'd1:r<=12'd2;default:r<=12'd3;endcase "), 1);
    B.due("the first of a row", stepped("case(2'd1)2'd1,2'd2:r<=12'd1;2'd1:r<=12'd2;endcase "), 1);
    B.due("the last of a row", stepped("case(2'd2)2'd0,2'd1,2'd2:r<=12'd1;2'd2:r<=12'd2;endcase "), 1);
    B.due("the second arm", stepped("case(2'd2)2'd1:r<=12'd1;2'd2:r<=12'd2;default:r<=12'd3;endcase "), 2);
    B.due("default", stepped("case(2'd3)2'd1:r<=12'd1;2'd2:r<=12'd2;default:r<=12'd3;endcase "), 3);
    B.due("default alone", stepped("case(2'd3)default:r<=12'd3;endcase "), 3);
    B.due("no default", stepped("case(2'd3)2'd1:r<=12'd1;endcase "), 0x5a5);
    B.due("nothing at all", stepped("case(2'd3)endcase "), 0x5a5);
    B.due("an empty arm", stepped("case(2'd1)2'd1:begin end default:r<=12'd3;endcase "), 0x5a5);
    B.due("what stands behind it", stepped("case(2'd1)2'd1:r<=12'd1;endcase r[11]<=1'b1;"), 0x801);
    B.due("behind very many", stepped("case(r)endcase ".repeat(4000) + "r<=12'd1;"), 1);
    B.due("behind very many with arms", stepped("case(1'b1)1'b0:begin end default:begin end endcase ".repeat(1200) + "r<=12'd1;"), 1);
    String top = "64'h8000000000000000";
    B.due("the top bit", stepped("case(" + top + ")64'd0:r<=12'd1;" + top + ":r<=12'd2;endcase "), 2);
    B.due("all bits", stepped("case(64'hffffffffffffffff)64'h7fffffffffffffff:r<=12'd1;64'hffffffffffffffff:r<=12'd2;endcase "), 2);
  }

  private static void conditions() {
    for (int bit = 0; bit < 64; bit++) B.due("if bit " + bit, stepped("if(" + sized(64, power(bit)) + ")r<=12'd1;else r<=12'd2;"), 1);
    B.due("if 0", stepped("if(64'd0)r<=12'd1;else r<=12'd2;"), 2);
    B.due("behind very many", stepped("if(1'b1)begin end ".repeat(700) + "if(1'b0)begin end ".repeat(700) + "r<=12'd1;"), 1);
    B.due("if 0 without an else", stepped("if(64'd0)r<=12'd1;"), 0x5a5);
  }
}
