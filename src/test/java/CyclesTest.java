/** Part 5 of the document and promises 9 to 13: values, cycles, asserts. */
public final class CyclesTest {
  public static void main(String[] args) {
    Bench b = new Bench("CyclesTest");
    arithmetic(b);
    shifts(b);
    asking(b);
    pieces(b);
    ranks(b);
    wide(b);
    registers(b);
    choices(b);
    calls(b);
    asserts(b);
    instances(b);
    b.end();
  }

  /** An exp of a, b (4 bits, these values) and c (1 bit, 1). */
  private static void exp(Bench b, int width, String exp, int a, int bb, long want) {
    CircuitCycles x = b.circuit("module m();wire[3:0]a;wire[3:0]b;wire c;assign a=4'd" + a + ";assign b=4'd" + bb
        + ";assign c=1'b1;wire[" + (width - 1) + ":0]o;assign o=" + exp + ";endmodule");
    b.due("signals", x.count(2), 4);
    b.due(exp + " with " + a + ", " + bb, x.value(3), want);
  }

  private static void arithmetic(Bench b) {
    for (int a = 0; a < 16; a += 3) {
      for (int c = 0; c < 16; c += 5) {
        exp(b, 4, "a+b", a, c, (a + c) & 15);
        exp(b, 4, "a-b", a, c, (a - c) & 15);
        exp(b, 4, "a*b", a, c, (a * c) & 15);
        exp(b, 4, "a&b", a, c, a & c);
        exp(b, 4, "a|b", a, c, a | c);
        exp(b, 4, "a^b", a, c, a ^ c);
        exp(b, 1, "a==b", a, c, a == c ? 1 : 0);
        exp(b, 1, "a!=b", a, c, a != c ? 1 : 0);
        exp(b, 1, "a<b", a, c, a < c ? 1 : 0);
        exp(b, 1, "a<=b", a, c, a <= c ? 1 : 0);
        exp(b, 1, "a>b", a, c, a > c ? 1 : 0);
        exp(b, 1, "a>=b", a, c, a >= c ? 1 : 0);
        exp(b, 1, "a&&b", a, c, a != 0 && c != 0 ? 1 : 0);
        exp(b, 1, "a||b", a, c, a != 0 || c != 0 ? 1 : 0);
      }
      exp(b, 4, "~a", a, 0, ~a & 15);
      exp(b, 4, "-a", a, 0, -a & 15);
      exp(b, 1, "!a", a, 0, a == 0 ? 1 : 0);
      exp(b, 1, "&a", a, 0, a == 15 ? 1 : 0);
      exp(b, 1, "|a", a, 0, a != 0 ? 1 : 0);
      exp(b, 1, "^a", a, 0, Integer.bitCount(a) & 1);
    }
  }

  private static void shifts(Bench b) {
    exp(b, 4, "a<<b", 5, 0, 5);
    exp(b, 4, "a<<b", 5, 1, 10);
    exp(b, 4, "a<<b", 5, 2, 4);
    exp(b, 4, "a<<b", 5, 4, 0);
    exp(b, 4, "a<<b", 5, 15, 0);
    exp(b, 4, "a>>b", 13, 0, 13);
    exp(b, 4, "a>>b", 13, 3, 1);
    exp(b, 4, "a>>b", 13, 4, 0);
    exp(b, 4, "a>>c", 13, 4, 6);
    exp(b, 4, "a<<7'd63", 15, 0, 0);
    exp(b, 4, "a<<7'd64", 15, 0, 0);
    exp(b, 4, "a>>7'd64", 15, 0, 0);
    exp(b, 4, "a<<7'd65", 15, 0, 0);
    exp(b, 4, "a>>64'hffffffffffffffff", 15, 0, 0);
    exp(b, 4, "a<<64'h8000000000000000", 15, 0, 0);
    exp(b, 4, "a<<64'h100000000", 15, 0, 0);
    exp(b, 4, "a>>64'h100000001", 15, 0, 0);
    exp(b, 64, "64'd1<<6'd63", 0, 0, Long.MIN_VALUE);
    exp(b, 64, "64'hffffffffffffffff>>6'd63", 0, 0, 1);
    exp(b, 64, "64'hffffffffffffffff>>7'd64", 0, 0, 0);
    exp(b, 64, "64'hffffffffffffffff<<7'd127", 0, 0, 0);
    exp(b, 1, "c<<c", 0, 0, 0);
  }

  private static void asking(Bench b) {
    exp(b, 1, "a[b]", 8, 3, 1);
    exp(b, 1, "a[b]", 8, 2, 0);
    exp(b, 1, "a[b]", 15, 4, 0);
    exp(b, 1, "a[b]", 15, 15, 0);
    exp(b, 1, "a[7'd64]", 15, 15, 0);
    exp(b, 1, "a[64'hffffffffffffffff]", 15, 15, 0);
    exp(b, 1, "a[64'h8000000000000000]", 15, 15, 0);
    exp(b, 1, "a[64'h100000000]", 15, 15, 0);
    exp(b, 1, "c[c]", 15, 15, 0);
    exp(b, 1, "c[1'b0]", 15, 15, 1);
    exp(b, 4, "a?a:b", 4, 7, 4);
    exp(b, 4, "a?a:b", 0, 7, 7);
    exp(b, 4, "c?b?a:4'd3:a", 6, 0, 3);
    exp(b, 4, "!c?a:b?4'd9:4'd8", 6, 2, 9);
    exp(b, 4, "!c?a:b?4'd9:4'd8", 6, 0, 8);
  }

  private static void pieces(Bench b) {
    exp(b, 1, "a[0]", 14, 0, 0);
    exp(b, 1, "a[3]", 8, 0, 1);
    exp(b, 2, "a[2:1]", 13, 0, 2);
    exp(b, 4, "a[3:0]", 13, 0, 13);
    exp(b, 8, "{a,b}", 13, 2, 13 * 16 + 2);
    exp(b, 9, "{c,b,a}", 13, 2, 256 + 2 * 16 + 13);
    exp(b, 4, "{a}", 13, 2, 13);
    exp(b, 12, "{3{a}}", 5, 2, 0x555);
    exp(b, 64, "{16{a}}", 15, 2, -1);
    exp(b, 64, "{16{a}}", 8, 2, 0x8888888888888888L);
    exp(b, 64, "{1{64'hfedcba9876543210}}", 8, 2, 0xfedcba9876543210L);
    exp(b, 64, "{64{c}}", 8, 2, -1);
    exp(b, 64, "{c,63'd0}", 8, 2, Long.MIN_VALUE);
    exp(b, 64, "{63'd1,c}", 8, 2, 3);
    exp(b, 64, "{{2{{a,b}}},48'd0}", 8, 2, 0x8282000000000000L);
    exp(b, 5, "{!a,a}", 0, 2, 16);
  }

  private static void ranks(Bench b) {
    exp(b, 4, "a-b-4'd1", 9, 3, 5);
    exp(b, 4, "a-(b-4'd1)", 9, 3, 7);
    exp(b, 4, "a-b+4'd1", 9, 3, 7);
    exp(b, 4, "a+b*4'd2", 1, 3, 7);
    exp(b, 4, "a*b+4'd2", 1, 3, 5);
    exp(b, 4, "-a*b", 1, 3, 13);
    exp(b, 4, "a<<c+c", 3, 3, 3);
    exp(b, 4, "a>>c<<c", 3, 3, 2);
    exp(b, 1, "a<<c<b", 3, 7, 1);
    exp(b, 1, "a<b==c", 3, 7, 1);
    exp(b, 1, "c==a<b", 3, 7, 1);
    exp(b, 1, "a==b&c", 3, 3, 1);
    exp(b, 1, "c&a==b", 3, 4, 0);
    exp(b, 4, "a|b&4'd4", 1, 6, 5);
    exp(b, 4, "a|b^b", 1, 6, 1);
    exp(b, 4, "a^b&4'd4", 5, 6, 1);
    exp(b, 4, "b&4'd4^a", 5, 6, 1);
    exp(b, 1, "c||c&&!c", 5, 6, 1);
    exp(b, 1, "!c&&c||c", 5, 6, 1);
    exp(b, 1, "!c&&(c||c)", 5, 6, 0);
    exp(b, 1, "!a==c", 0, 0, 1);
    exp(b, 1, "c|!c&&!c", 0, 0, 0);
    exp(b, 4, "c?a:b+4'd1", 2, 4, 2);
    exp(b, 4, "!c?a:b+4'd1", 2, 4, 5);
    exp(b, 1, "a<b<c", 4, 2, 1);
    exp(b, 1, "~&a", 15, 0, 0);
    exp(b, 4, "~-a", 3, 0, 2);
    exp(b, 4, "a&&&b?a:b", 3, 7, 7);
    exp(b, 4, "a- -b", 3, 7, 10);
    exp(b, 4, "a--b", 3, 7, 10);
  }

  private static void wide(Bench b) {
    String big = "64'hffffffffffffffff";
    exp(b, 64, big + "+64'd2", 0, 0, 1);
    exp(b, 64, "64'd0-64'd1", 0, 0, -1);
    exp(b, 64, "-64'd1", 0, 0, -1);
    exp(b, 64, "~64'd0", 0, 0, -1);
    exp(b, 1, big + ">64'd1", 0, 0, 1);
    exp(b, 1, big + "<64'd1", 0, 0, 0);
    exp(b, 1, "64'h7fffffffffffffff<64'h8000000000000000", 0, 0, 1);
    exp(b, 1, "64'h7fffffffffffffff>=64'h8000000000000000", 0, 0, 0);
    exp(b, 1, "64'h8000000000000000<=64'h8000000000000000", 0, 0, 1);
    exp(b, 1, "64'h8000000000000000>64'd0", 0, 0, 1);
    exp(b, 1, "&" + big, 0, 0, 1);
    exp(b, 1, "&64'hfffffffffffffffe", 0, 0, 0);
    exp(b, 1, "^64'h8000000000000000", 0, 0, 1);
    exp(b, 1, "64'h8000000000000000&&64'h4000000000000000", 0, 0, 1);
    exp(b, 4, "64'h8000000000000000?a:b", 6, 7, 6);
    exp(b, 33, "33'h1ffffffff*33'd0", 0, 0, 0);
    exp(b, 38, "38'h3fffffffff*38'h3fffffffff", 0, 0, 1);
    exp(b, 63, "63'd0-63'd1", 0, 0, Long.MAX_VALUE);
  }

  private static final String EDGE = "always@(posedge clock)";

  private static void registers(Bench b) {
    CircuitCycles x = b.circuit("module m(input[1:0]a);reg[3:0]r=4'd9;reg[3:0]s;reg q=1'b1;" + EDGE
        + "begin s<=r;r<=s;r[1:0]<=a;r[1]<=a[0];end endmodule");
    b.due("r at first", x.value(1), 9);
    b.due("s at first", x.value(2), 0);
    x.set(0, 2);
    b.due("step", x.step(), 1);
    b.due("r", x.value(1), 0);
    b.due("s", x.value(2), 9);
    x.set(0, 1);
    b.due("step", x.step(), 2);
    b.due("r", x.value(1), 8 + 2 + 1);
    b.due("s", x.value(2), 0);
    b.due("q stays", x.value(3), 1);
    x.reset();
    b.due("a behind reset", x.value(0), 0);
    b.due("r behind reset", x.value(1), 9);
    b.due("s behind reset", x.value(2), 0);
    b.due("step behind reset", x.step(), 1);
    CircuitCycles swap = b.circuit("module m();reg a=1'b1;reg b;" + EDGE + "a<=b;" + EDGE + "b<=a;endmodule");
    swap.step();
    b.due("a", swap.value(0), 0);
    b.due("b", swap.value(1), 1);
    CircuitCycles over = b.circuit("module m();reg[2:0]a;" + EDGE + "begin a[2]<=1'b1;a<=3'd1;a[1]<=~a[1];end endmodule");
    over.step();
    b.due("what is set later counts", over.value(0), 3);
    over.step();
    b.due("bit by bit", over.value(0), 1);
  }

  private static void choices(Bench b) {
    String m = "module m(input[1:0]a,input c);reg[3:0]r=4'd15;";
    CircuitCycles x = b.circuit(m + EDGE + "case(a)2'd1,2'd3:r<=4'd1;2'd3,2'd2:r<=4'd2;endcase endmodule");
    int[] want = {15, 1, 2, 1};
    for (int a = 0; a < 4; a++) {
      x.reset();
      x.set(0, a);
      x.step();
      b.due("case without default, " + a, x.value(2), want[a]);
    }
    x = b.circuit(m + EDGE + "begin case(a)2'd1:r<=4'd1;2'd1:r<=4'd2;default:if(c)r[0]<=1'b0;endcase r[3]<=1'b0;end endmodule");
    for (int a = 0; a < 4; a++) {
      for (int c = 0; c < 2; c++) {
        x.reset();
        x.set(0, a);
        x.set(1, c);
        x.step();
        b.due("case with default, " + a + ", " + c, x.value(2), a == 1 ? 1 : c == 1 ? 6 : 7);
      }
    }
    x = b.circuit(m + EDGE + "if(a[0])if(a[1])r<=4'd1;else r<=4'd2;endmodule");
    int[] dangling = {15, 2, 15, 1};
    for (int a = 0; a < 4; a++) {
      x.reset();
      x.set(0, a);
      x.step();
      b.due("an else belongs to the latest if, " + a, x.value(2), dangling[a]);
    }
    x = b.circuit(m + EDGE + "if(a)if(a[1])r<=4'd1;else r<=4'd2;else begin r<=4'd3;if(c)begin end else r[0]<=1'b0;end endmodule");
    int[] full = {2, 2, 1, 1};
    for (int a = 0; a < 4; a++) {
      x.reset();
      x.set(0, a);
      x.step();
      b.due("both have an else, " + a, x.value(2), full[a]);
    }
    x = b.circuit(m + EDGE + "case(a)2'd0:case(c)1'b0:r<=4'd0;default:r<=4'd1;endcase 2'd1:case(c)endcase 2'd2:begin case(c)1'b1:"
        + "r<=4'd2;endcase if(!c)r<=4'd3;end default:case(c)default:r<=4'd4;endcase endcase endmodule");
    int[] nested = {0, 1, 15, 15, 3, 2, 4, 4};
    for (int i = 0; i < 8; i++) {
      x.reset();
      x.set(0, i / 2);
      x.set(1, i % 2);
      x.step();
      b.due("a case in a case, " + i, x.value(2), nested[i]);
    }
    // Sixty at once, the innermost one asked last.
    x = b.circuit("module m(input a);reg[1:0]r;" + EDGE + "case(a)1'b1:".repeat(59) + "r<=r+2'd1;" + "default:begin end endcase ".repeat(59) + "endmodule");
    x.step();
    b.due("not through", x.value(1), 0);
    x.set(0, 1);
    x.step();
    b.due("through", x.value(1), 1);
  }

  private static void calls(Bench b) {
    CircuitCycles x = b.circuit("module s(input i);endmodule module m(input[2:0]a,input c,output o);reg r;assign o=a[0]^c;s u(.i(c));"
        + EDGE + "r<=o;endmodule");
    b.due("o at first", x.value(2), 0);
    x.set(0, 7);
    b.due("o at once", x.value(2), 1);
    x.set(1, 1);
    b.due("o at once", x.value(2), 0);
    b.due("u.i at once", x.value(4), 1);
    x.set(0, 6);
    b.due("step", x.step(), 1);
    b.due("inputs stay", x.value(0), 6);
    b.due("r", x.value(3), 1);
    int[] odd = {8, -1, Integer.MAX_VALUE, Integer.MIN_VALUE};
    for (int v : odd) b.dueThrow("set(0, " + v + ")", () -> x.set(0, v), IllegalArgumentException.class);
    b.dueThrow("set(1, 2)", () -> x.set(1, 2), IllegalArgumentException.class);
    for (int s = 2; s < 5; s++) {
      int t = s;
      b.dueThrow("set(" + s + ", 0)", () -> x.set(t, 0), IllegalArgumentException.class);
    }
    int[] none = {-1, 5, 1023, 1024, Integer.MAX_VALUE, Integer.MIN_VALUE};
    for (int s : none) {
      b.dueThrow("set(" + s + ", 0)", () -> x.set(s, 0), IndexOutOfBoundsException.class);
      b.dueThrow("set(" + s + ", -1)", () -> x.set(s, -1), IndexOutOfBoundsException.class);
      b.dueThrow("value(" + s + ")", () -> x.value(s), IndexOutOfBoundsException.class);
    }
    b.due("a is as it was", x.value(0), 6);
    b.due("c is as it was", x.value(1), 1);
    b.due("step", x.step(), 2);
    for (int i = 3; i <= 400; i++) {
      int got = x.step();
      if (got != i) b.due("step " + i, got, i);
    }
    x.reset();
    b.due("inputs behind reset", x.value(0) + x.value(1), 0);
    b.due("step behind reset", x.step(), 1);
  }

  private static void asserts(Bench b) {
    CircuitCycles x = b.circuit("module s(input[1:0]i);assert(i);assert(i==2'd3);endmodule module m(input[1:0]a);reg r;assert(a);"
        + "s u(.i(a));assert(r);s v(.i(~a));" + EDGE + "r<=|a;endmodule");
    b.due("asserts", x.count(5), 6);
    b.due("failing with 0", x.failing(), 2 + 2 + 0);
    x.set(0, 1);
    b.due("failing with 1", x.failing(), 0 + 1 + 1 + 1);
    x.step();
    b.due("failing in the next cycle", x.failing(), 0 + 1 + 0 + 1);
    x.set(0, 3);
    b.due("failing with 3", x.failing(), 0 + 0 + 0 + 2);
    x.reset();
    b.due("failing behind reset", x.failing(), 4);
    CircuitCycles wide = b.circuit("module m();assert(64'h8000000000000000);assert(64'd0);assert(1'b0);endmodule");
    b.due("failing", wide.failing(), 2);
  }

  private static void instances(Bench b) {
    String cell = "module cell(input i,output reg q,output n);assign n=~q;" + EDGE + "q<=i;endmodule ";
    CircuitCycles x = b.circuit(cell + "module three(input i,output o);wire a;wire na;wire b;wire nb;wire nc;cell x(.i(i),.q(a),.n(na));"
        + "cell y(.n(nb),.q(b),.i(a));cell z(.i(~nb),.q(o),.n(nc));endmodule module top(input i,output o);wire m;"
        + "three f(.i(i),.o(m));three g(.i(m),.o(o));endmodule");
    int[] fed = {1, 0, 1, 1, 0, 0, 1, 0, 1, 0, 0, 0, 1};
    for (int t = 0; t < fed.length; t++) {
      b.dueValue(x, "o", t >= 6 ? fed[t - 6] : 0);
      b.dueValue(x, "f.o", t >= 3 ? fed[t - 3] : 0);
      b.dueValue(x, "g.y.n", t >= 5 ? 1 - fed[t - 5] : 1);
      b.dueValue(x, "g.x.i", t >= 3 ? fed[t - 3] : 0);
      x.set(0, fed[t]);
      x.step();
    }
  }
}
