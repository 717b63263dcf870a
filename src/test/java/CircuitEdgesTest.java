/** Part 4 of the document, THE CIRCUIT: each sentence that names an edge, with the answers on both of its sides. */
public final class CircuitEdgesTest {
  private static final Bench B = new Bench("CircuitEdgesTest");
  private static final String EDGE = "always@(posedge clock)";

  public static void main(String[] args) {
    top();
    anew();
    links();
    signals();
    inputs();
    instanceLimit();
    instancesWithoutEnd();
    signalLimit();
    registerLimit();
    inputLimit();
    costLimit();
    costWithoutEnd();
    workLimit();
    costOfNothing();
    placeOfLimits();
    limitsInOrder();
    operatorCosts();
    otherCosts();
    freeOfCost();
    costOfInstances();
    costExamples();
    loops();
    firstLooped();
    loopsOfInstances();
    registersInLoops();
    loopBehindAll();
    B.end();
  }

  private static void top() {
    B.says("The last module is the TOP.");
    B.due("signals", B.circuit("module m(input a);endmodule").count(2), 1);
    B.due("signals", B.circuit("module m(input a);endmodule module n();endmodule").count(2), 0);
    B.due("signals", B.circuit("module n();endmodule module m(input a);endmodule").count(2), 1);
    B.due("signals", B.circuit("module n(input a,input b);endmodule module m(input a);n u(.a(a),.b(a));endmodule").count(2), 3);
  }

  private static void anew() {
    B.says("Each instance makes the signals and asserts of its module anew");
    CircuitCycles x = B.circuit("module s(input i);reg r;" + EDGE + "r<=i;assert(r);endmodule module m(input a,input b);s u(.i(a));s v(.i(b));endmodule");
    B.due("asserts", x.count(5), 2);
    B.due("failing", x.failing(), 2);
    x.set(1, 1);
    x.step();
    B.due("u.r", x.value(Bench.find(x, "u.r")), 0);
    B.due("v.r", x.value(Bench.find(x, "v.r")), 1);
    B.due("failing", x.failing(), 1);
  }

  private static void links() {
    B.says("a link makes a port the same as its exp: an input has its value, an output gives its value to the driven one");
    CircuitCycles x = B.circuit("module s(input[63:0]i,output[63:0]o,output reg[1:0]q=2'd2);assign o=~i;" + EDGE + "q<=i[1:0];endmodule"
        + " module m(input a,output[63:0]p);wire[1:0]w;s u(.i({64{a}}),.o(p),.q(w));endmodule");
    B.dueValue(x, "u.i", 0);
    B.dueValue(x, "u.o", -1);
    B.dueValue(x, "p", -1);
    B.dueValue(x, "w", 2);
    x.set(0, 1);
    B.dueValue(x, "u.i", -1);
    B.dueValue(x, "p", 0);
    B.dueValue(x, "w", 2);
    x.step();
    B.dueValue(x, "w", 3);
    B.dueValue(x, "u.q", 3);
  }

  private static void signals() {
    B.says("Everything has numbers from 0");
    B.due("the only signal", Bench.find(B.circuit("module m(input a);endmodule"), "a"), 0);
    B.says("SIGNALS are, of the top, and then of each instance in turn (in the order in which they are told, each with what is in it before the"
        + " next one), its ports, wires and registers in the order in which they are declared.");
    B.due("signals of nothing", B.circuit("module m();endmodule").count(2), 0);
    B.due("signals of nothing in nothing", B.circuit("module e();endmodule module m();e u();e v();endmodule").count(2), 0);
    CircuitCycles x = B.circuit("module e();endmodule module l(input p);reg q;endmodule"
        + " module k();reg a;l x(.p(a));wire b;assign b=a;e y();l z(.p(b));endmodule"
        + " module m(output reg c,input d);reg e;k g();wire f;e i();assign f=d;k h();reg j;endmodule");
    String[] order = {"c", "d", "e", "f", "j", "g.a", "g.b", "g.x.p", "g.x.q", "g.z.p", "g.z.q", "h.a", "h.b", "h.x.p", "h.x.q", "h.z.p", "h.z.q"};
    B.due("signals", x.count(2), order.length);
    for (int i = 0; i < order.length; i++) B.due("find " + order[i], Bench.find(x, order[i]), i);
  }

  private static void inputs() {
    B.says("INPUTS are the inputs of the top.");
    CircuitCycles x = B.circuit("module s(input i);endmodule module m(input a,output b);s u(.i(a));assign b=a;endmodule");
    B.due("input bits", x.count(4), 1);
    B.due("a", x.signal(0, 1), 0);
    B.due("b", x.signal(1, 1), 1);
    B.due("u.i", x.signal(2, 1), 1);
    CircuitCycles y = B.circuit("module e();endmodule module m(output o,input a,input b);e u();e v();assign o=a;endmodule");
    B.due("a beside an instance of nothing", y.signal(1, 1), 0);
    B.due("b beside an instance of nothing", y.signal(2, 1), 0);
    y.set(2, 1);
    B.due("b", y.value(2), 1);
    B.due("no inputs", B.circuit("module s(input i);endmodule module m();s u(.i(1'b1));endmodule").count(4), 0);
    B.dueThrow("set of u.i", () -> x.set(2, 0), IllegalArgumentException.class);
  }

  private static void instanceLimit() {
    B.says("40 more than 256 instances (the top is none)");
    String e = "module e();endmodule ";
    for (int n : new int[] {0, 1, 255, 256}) {
      B.due("instances", B.circuit(e + "module m();" + Bench.repeated("e u%();", 0, n) + "endmodule").count(1), n);
    }
    B.dueFault(40, e + "module #m();" + Bench.repeated("e u%();", 0, 257) + "endmodule");
    // 16 times 15 in 16 of their own: 256; and one more.
    String grid = e + "module r();" + Bench.repeated("e u%();", 0, 15) + "endmodule ";
    B.due("instances", B.circuit(grid + "module m();" + Bench.repeated("r v%();", 0, 16) + "endmodule").count(1), 256);
    B.dueFault(40, grid + "module #m();" + Bench.repeated("r v%();", 0, 16) + "e w();endmodule");
    // Only those of the top are counted.
    B.circuit(e + "module x();" + Bench.repeated("e u%();", 0, 300) + "endmodule module m();endmodule");
    B.due("instances of a chain", B.circuit(chain(256)).count(1), 256);
    B.dueFault(40, chain(257).replace("module m257", "module #m257"));
  }

  private static String chain(int length) {
    StringBuilder s = new StringBuilder("module m0();endmodule ");
    for (int i = 1; i <= length; i++) s.append("module m" + i + "();m" + (i - 1) + " u();endmodule ");
    return s.toString();
  }

  /** Twice, three or more times as many with each module: no number is great enough for them. */
  private static void instancesWithoutEnd() {
    B.says("40 more than 256 instances");
    for (int times : new int[] {2, 3, 16, 255, 256}) {
      StringBuilder s = new StringBuilder("module m0();reg r;assert(r);endmodule ");
      long instances = 0;
      long registers = 1;
      for (int i = 1; i <= 70 && s.length() < 60000; i++) {
        s.append("module m" + i + "();" + Bench.repeated("m@ u%();".replace("@", "" + (i - 1)), 0, times) + "endmodule ");
        instances = Math.min(1000, times + times * instances);
        registers = Math.min(1000, times * registers);
        B.dueRead(instances > 256 ? 40 : registers > 12 ? 42 : 0, s.lastIndexOf("module m" + i) + 7, s.toString());
      }
    }
  }

  private static void signalLimit() {
    B.says("41 more than 1024 signals");
    String wires = Bench.repeated("wire w%;assign w%=1'b0;", 0, 1023);
    B.due("signals", B.circuit("module m(input a);" + wires + "endmodule").count(2), 1024);
    B.dueFault(41, "module #m(input a,input b);" + wires + "endmodule");
    B.dueFault(41, "module #m(input a);reg r;" + wires + "endmodule");
    String s = "module s(input i);reg r;wire v;assign v=i;endmodule ";
    CircuitCycles x = B.circuit(s + "module m(input a);" + wires.replace("wire w0;assign w0=1'b0;wire w1;assign w1=1'b0;wire w2;assign w2=1'b0;", "")
        + "s u(.i(a));endmodule");
    B.due("signals", x.count(2), 1024);
    B.due("find the last one", Bench.find(x, "u.v"), 1023);
    B.dueFault(41, s + "module #m(input a);" + wires.replace("wire w0;assign w0=1'b0;wire w1;assign w1=1'b0;", "") + "s u(.i(a));endmodule");
    // 256 times 256 signals are 65536.
    B.dueFault(41, "module s();" + Bench.repeated("wire w%;assign w%=1'b0;", 0, 256) + "endmodule module #m();" + Bench.repeated("s u%();", 0, 256)
        + "endmodule");
    B.circuit("module s();" + wires + "reg r;reg t;endmodule module m();endmodule");
  }

  private static void registerLimit() {
    B.says("42 registers have more than 12 bits together");
    B.due("bits", B.circuit("module m();reg[11:0]r;endmodule").count(3), 12);
    B.dueFault(42, "module #m();reg[12:0]r;endmodule");
    B.due("bits", B.circuit("module m(output reg[5:0]q);reg[4:0]r;reg s;endmodule").count(3), 12);
    B.dueFault(42, "module #m(output reg[5:0]q);reg[4:0]r;reg[1:0]s;endmodule");
    String s = "module s();reg[2:0]r;endmodule ";
    B.due("bits", B.circuit(s + "module m();s a();s b();s c();s d();endmodule").count(3), 12);
    B.dueFault(42, s + "module #m();reg r;s a();s b();s c();s d();endmodule");
    B.dueFault(42, "module #m();" + Bench.repeated("reg[63:0]r%;", 0, 1024) + "endmodule");
    B.circuit("module s();reg[63:0]r;endmodule module m();reg[11:0]r;endmodule");
    B.due("no bits", B.circuit("module m(input a);endmodule").count(3), 0);
  }

  private static void inputLimit() {
    B.says("43 inputs more than 6");
    B.due("bits", B.circuit("module m(input[5:0]a);endmodule").count(4), 6);
    B.dueFault(43, "module #m(input[6:0]a);endmodule");
    B.due("bits", B.circuit("module m(input a,input b,input c,input d,input e,input f);endmodule").count(4), 6);
    B.dueFault(43, "module #m(input a,input b,input c,input d,input e,input f,input g);endmodule");
    B.due("bits", B.circuit("module m(input[2:0]a,input[1:0]b,input c);endmodule").count(4), 6);
    B.dueFault(43, "module #m(input[2:0]a,input[1:0]b,input[1:0]c);endmodule");
    B.dueFault(43, "module #m(input a" + Bench.repeated(",input[63:0]i%", 0, 1023) + ");endmodule");
    B.dueFault(43, "module #m(input[63:0]a" + Bench.repeated(",input[63:0]i%", 0, 1023) + ");endmodule");
    // Those of instances are none.
    B.circuit("module s(input[63:0]i);endmodule module m(input[5:0]a);s u(.i({58'd0,a}));endmodule");
  }

  /** Items that cost so much, whatever stands beside them. */
  private static String costing(int cost) {
    return "wire[63:0]w;assign w=64'd3;" + "assert(w);".repeat(cost / 64) + (cost % 64 == 0 ? "" : "assert(w[" + (cost % 64 - 1) + ":0]);");
  }

  private static void costLimit() {
    B.says("44 the COST is above 1500");
    for (int cost : new int[] {0, 1, 1499, 1500}) B.due("cost", B.circuit("module m();" + costing(cost) + "endmodule").count(6), cost);
    B.dueFault(44, "module #m();" + costing(1501) + "endmodule");
    B.dueFault(44, "module #m();" + costing(5000) + "endmodule");
    // 38 * 38 is 1444, and 56 more.
    String product = "module m();wire[37:0]p;assign p=38'd3*38'd3;";
    B.due("cost", B.circuit(product + costing(56) + "endmodule").count(6), 1500);
    B.dueFault(44, product.replace("module m", "module #m") + costing(57) + "endmodule");
    B.dueFault(44, "module #m();wire[38:0]p;assign p=39'd3*39'd3;endmodule");
    String s = "module s();" + costing(500) + "endmodule ";
    B.due("cost", B.circuit(s + "module m();s a();s b();s c();endmodule").count(6), 1500);
    B.dueFault(44, s + "module #m();s a();s b();s c();assert(1'b1);endmodule");
    B.circuit("module s();" + costing(1501) + "endmodule module m();endmodule");
  }

  /** Costs that would be nothing, or below nothing, in 32 bits. */
  private static void costWithoutEnd() {
    B.says("The cost is the sum over all instances (and the top)");
    String s = "module s();wire[63:0]a;assign a=64'd3;wire[63:0]p;assign p=a" + "*a".repeat(4096) + ";endmodule ";
    for (int times : new int[] {1, 2, 64, 127, 128, 129, 255, 256}) {
      B.dueFault(44, s + "module #m();" + Bench.repeated("s u%();", 0, times) + "endmodule");
    }
    B.dueFault(44, "module #m();wire[63:0]a;assign a=64'd3;assert(a" + "*a".repeat(32700) + ");endmodule");
  }

  private static void workLimit() {
    B.says("46 2 to the number of bits of registers and inputs together, times the cost (or 1, if that is 0), is above 16777216");
    for (int registers = 8; registers <= 12; registers++) {
      for (int inputs = 2; inputs <= 6; inputs++) {
        int bits = registers + inputs;
        if (bits < 14) continue;
        int most = 1 << (24 - bits);
        String head = "module m(input[" + (inputs - 1) + ":0]i);reg[" + (registers - 1) + ":0]r;";
        B.due("cost", B.circuit(head + costing(most) + "endmodule").count(6), most);
        B.dueFault(46, head.replace("module m", "module #m") + costing(most + 1) + "endmodule");
      }
    }
    // With 13 bits no cost is too high for this one: 44 comes first.
    B.circuit("module m(input[5:0]i);reg[6:0]r;" + costing(1500) + "endmodule");
    B.dueFault(44, "module #m(input[5:0]i);reg[6:0]r;" + costing(1501) + "endmodule");
    // The registers of instances are among them.
    String s = "module s();reg[5:0]r;endmodule ";
    B.circuit(s + "module m(input[5:0]i);s u();s v();" + costing(64) + "endmodule");
    B.dueFault(46, s + "module #m(input[5:0]i);s u();s v();" + costing(65) + "endmodule");
  }

  private static void costOfNothing() {
    B.says("times the cost (or 1, if that is 0)");
    CircuitCycles x = B.circuit("module m(input[5:0]i);reg[11:0]r;endmodule");
    B.due("cost", x.count(6), 0);
    B.due("bits", x.count(3) + x.count(4), 18);
  }

  private static void placeOfLimits() {
    B.says("FAULTS at the NAME of the top, in this order");
    B.dueFault(42, "module s();reg[12:0]r;endmodule module /* the top */ #m // m\n ();s u();endmodule");
    B.dueFault(44, "module s();" + costing(1501) + "endmodule module n();s u();endmodule module #m();n u();endmodule");
    B.dueFault(43, "module #m(input[6:0]a);endmodule");
  }

  /** Every choice of limits that are passed at once: the first one in the document's order is told. */
  private static void limitsInOrder() {
    int[] codes = {40, 41, 42, 43, 44, 46, 45};
    for (int passed = 0; passed < 128; passed++) {
      String text = "module e();endmodule module m(input[" + ((passed & 8) != 0 ? 6 : 5) + ":0]i);reg[" + ((passed & 4) != 0 ? 12 : 11) + ":0]r;"
          + costing((passed & 16) != 0 ? 1501 : (passed & 32) != 0 ? 65 : 64) + ((passed & 64) != 0 ? "wire z;assign z=z;" : "")
          + ((passed & 2) != 0 ? Bench.repeated("wire w%;assign w%=1'b0;", 0, 1024) : "")
          + ((passed & 1) != 0 ? Bench.repeated("e u%();", 0, 257) : "") + "endmodule";
      int first = Integer.numberOfTrailingZeros(passed);
      int code = passed == 0 ? 0 : codes[first];
      B.dueRead(code, code == 45 ? text.indexOf("z;") : text.indexOf("m(input"), text);
    }
  }

  /** The cost of an exp of a, b of these widths and c of one bit. */
  private static void dueCost(int wa, int wb, int wo, String exp, int want) {
    CircuitCycles x = B.circuit("module m();wire[" + (wa - 1) + ":0]a;assign a=" + wa + "'d0;wire[" + (wb - 1) + ":0]b;assign b=" + wb
        + "'d0;wire c;assign c=1'b0;wire[" + (wo - 1) + ":0]o;assign o=" + exp + ";endmodule");
    B.due("cost of " + exp + " with " + wa + ", " + wb, x.count(6), want);
  }

  private static void operatorCosts() {
    B.says("the width of its widest operand (a condition, an index and what is asked of it are operands, too), but for << >> three times that of the"
        + " first and once that of the second, for * its square");
    for (int w : new int[] {1, 2, 31, 38, 63, 64}) {
      for (String op : "+ - & | ^".split(" ")) dueCost(w, w, w, "a" + op + "b", w);
      for (String op : "== != < <= > >=".split(" ")) dueCost(w, w, 1, "a" + op + "b", w);
      for (String op : "~ -".split(" ")) dueCost(w, w, w, op + "a", w);
      for (String op : "! & | ^".split(" ")) dueCost(w, w, 1, op + "a", w);
      if (w * w <= 1500) dueCost(w, w, w, "a*b", w * w);
      for (int v : new int[] {1, 2, 33, 64}) {
        int widest = Math.max(w, v);
        for (String op : "&& ||".split(" ")) dueCost(w, v, 1, "a" + op + "b", widest);
        for (String op : "<< >>".split(" ")) dueCost(w, v, w, "a" + op + "b", 3 * w + v);
        dueCost(w, v, v, "a?b:b", widest);
        dueCost(w, v, 1, "a[b]", widest);
      }
    }
  }

  /** The cost of items beside a (4 bits), b (4 bits), c (1 bit) and a register r of 3 bits. */
  private static void dueItems(String items, int want) {
    CircuitCycles x = B.circuit("module s(input[3:0]i);endmodule module m(input[3:0]a,input c);wire[3:0]b;assign b=a;reg[2:0]r;" + items + "endmodule");
    B.due("cost of " + items, x.count(6), want);
  }

  private static void otherCosts() {
    B.says("for each <= the width that it sets; for each assert and if, and for each SIZED of a case, the width of its exp");
    dueItems(EDGE + "r<=r;", 3);
    dueItems(EDGE + "r[0]<=c;", 1);
    dueItems(EDGE + "r[2:0]<=r;", 3);
    dueItems(EDGE + "r[2:1]<=a[1:0];", 2);
    dueItems("assert(a);", 4);
    dueItems("assert(c);", 1);
    dueItems("assert(64'd1);", 64);
    dueItems(EDGE + "if(a)begin end ", 4);
    dueItems(EDGE + "if(a)begin end else begin end ", 4);
    dueItems(EDGE + "if(c)r<=r;else r[0]<=c;", 5);
    dueItems(EDGE + "case(a)endcase ", 0);
    dueItems(EDGE + "case(a)default:begin end endcase ", 0);
    dueItems(EDGE + "case(a)4'd0:begin end endcase ", 4);
    dueItems(EDGE + "case(a)4'd0,4'd0:begin end 4'd1:begin end endcase ", 12);
    B.says("for each operator in an exp, as it is told (of links, case, if, assert, too; once; unary ones, ?, NAME [ exp ], too)");
    dueItems("s u(.i(a+b));", 4);
    dueItems(EDGE + "case(a+b)4'd0:begin end 4'd1:begin end endcase ", 4 + 8);
    dueItems(EDGE + "if(a+b)begin end ", 4 + 4);
    dueItems("assert(a+b);", 4 + 4);
    dueItems("assert({3{a+b}});", 4 + 12);
    dueItems(EDGE + "r<=r+r;", 3 + 3);
    dueItems("assert(a[a[a[c]]]);", 1 + 12);
    dueItems("assert(~!-&|^a);", 1 + 4 + 1 + 1 + 1 + 1 + 1);
    dueItems("assert(c?c?c:c:c?c:c);", 1 + 3);
  }

  private static void freeOfCost() {
    B.says("parts and braces cost nothing");
    dueItems("wire[1:0]w;assign w=a[2:1];", 0);
    dueItems("wire w;assign w=a[3];", 0);
    dueItems("wire[7:0]w;assign w={a,b};", 0);
    dueItems("wire[63:0]w;assign w={16{a}};", 0);
    dueItems("wire[3:0]w;assign w=(((a)));", 0);
    dueItems("s u(.i({c,r}));", 0);
    dueItems(EDGE + "begin begin end end ", 0);
  }

  private static void costOfInstances() {
    B.says("The cost is the sum over all instances (and the top)");
    String s = "module s(input[1:0]i);assert(i);endmodule module n(input[1:0]i);s u(.i(~i));s v(.i(i));assert(^i);endmodule ";
    B.due("cost", B.circuit(s + "module m(input[1:0]i);endmodule").count(6), 0);
    B.due("cost", B.circuit(s + "module m(input[1:0]i);s u(.i(i));endmodule").count(6), 2);
    B.due("cost", B.circuit(s + "module m(input[1:0]i);n u(.i(i));endmodule").count(6), 2 + 2 + 2 + 1 + 2);
    B.due("cost", B.circuit(s + "module m(input[1:0]i);n u(.i(i));n v(.i(i+i));endmodule").count(6), 9 + 9 + 2);
  }

  private static void costExamples() {
    B.says("(With a and b of 4 bits and c of 1: ~ a + b costs 8, c ? a : b 4, a << c 13, a * b 16, a [ c ] 4, ! a && c 5.)");
    dueItems("wire[3:0]w;assign w=~ a + b;", 8);
    dueItems("wire[3:0]w;assign w=c ? a : b;", 4);
    dueItems("wire[3:0]w;assign w=a << c;", 13);
    dueItems("wire[3:0]w;assign w=a * b;", 16);
    dueItems("wire w;assign w=a [ c ];", 4);
    dueItems("wire w;assign w=! a && c;", 5);
  }

  private static void loops() {
    B.says("a driven one on all in what drives it");
    for (String exp : new String[] {"w", "(w)", "~w", "!w", "a|w", "w|a", "w?a:a", "a?w:a", "a?a:w", "a[w]", "w[0]", "w[0:0]", "w[a]", "{w}", "{1{w}}",
        "w<<a", "a<<w", "1'b0&w", "w==a", "a&&w", "a[w[0]]", "a[a[w]]", "w*a", "a?a:a?a:w", "1'b1||w"}) {
      B.dueFault(45, "module m(input a);wire #w;assign w=" + exp + ";endmodule");
      B.dueFault(45, "module m(input a,output #w);assign w=" + exp + ";endmodule");
      B.circuit("module m(input a);wire w;reg r;assign w=" + exp.replace("w", "r") + ";endmodule");
      B.circuit("module m(input a);wire w;wire v;assign v=a;assign w=" + exp.replace("w", "v") + ";endmodule");
    }
    // What is only asserted or set does not drive.
    B.circuit("module m(input a);wire w;reg r;assign w=r;" + EDGE + "r<=w;assert(w);endmodule");
    // Bits are not told apart.
    B.dueFault(45, "module m();wire[1:0]#w;assign w={w[0],1'b1};endmodule");
  }

  private static void firstLooped() {
    B.says("the first signal (by numbers) that is no register and DEPENDS on itself");
    B.dueFault(45, "module m();wire a;wire #b;wire c;assign a=b;assign b=c;assign c=b;endmodule");
    B.dueFault(45, "module m();wire #a;wire b;wire c;assign c=a;assign b=c;assign a=b;endmodule");
    B.dueFault(45, "module m();wire a;wire #b;wire c;assign a=1'b1;assign b=b;assign c=c;endmodule");
    B.dueFault(45, "module m();wire a;wire b;wire #c;assign c=c;assign b=c;assign a=b;endmodule");
    B.dueFault(45, "module m();wire c;wire b;wire #d;assign c=d|b;assign b=1'b0;assign d=d|b;endmodule");
    // Between two loops and in none of them.
    B.dueFault(45, "module m();wire a;wire #b;wire c;assign b=b|a;assign a=c;assign c=c;endmodule");
    B.dueFault(45, "module m();wire a;wire #c;wire b;assign b=b|a;assign a=c;assign c=c;endmodule");
    // The longest loop, and the longest way without one.
    StringBuilder s = new StringBuilder("module m();" + Bench.repeated("wire w%;", 0, 1024));
    for (int i = 0; i < 1023; i++) s.append("assign w" + i + "=w" + (i + 1) + ";");
    B.circuit(s + "assign w1023=1'b1;endmodule");
    for (int first : new int[] {0, 1, 500, 1022, 1023}) {
      B.dueFault(45, s.toString().replace("wire w" + first + ";", "wire #w" + first + ";") + "assign w1023=w" + first + ";endmodule");
    }
  }

  private static void loopsOfInstances() {
    B.says("an input of an instance on all signals in its link's exp, a driven one on all in what drives it (an output's, through the link), and on what"
        + " these depend");
    String pass = "module p(input i,output o);assign o=i;endmodule ";
    String no = "module p(input i,output o);assign o=1'b1;endmodule ";
    for (String exp : new String[] {"w", "~w", "a?a:w", "a[w]", "{w}", "w[0]", "1'b0&w"}) {
      B.dueFault(45, pass + "module m(input a);wire #w;p u(.i(" + exp + "),.o(w));endmodule");
      B.circuit(no + "module m(input a);wire w;p u(.i(" + exp + "),.o(w));endmodule");
    }
    B.circuit(pass + "module m(input a);wire w;wire v;p u(.i(a),.o(w));p t(.i(w),.o(v));endmodule");
    B.dueFault(45, pass + "module m(input a);wire #w;wire v;p u(.i(v),.o(w));p t(.i(w),.o(v));endmodule");
    // Wholly inside of an instance: the first one of that instance, told at its place in the module.
    B.dueFault(45, "module p(input i);wire v;wire #w;assign v=i;assign w=w;endmodule module m(input a);p u(.i(a));p t(.i(a));endmodule");
    B.dueFault(45, "module p(input i,output #o);assign o=o|i;endmodule module m(input a);wire w;p u(.i(a),.o(w));endmodule");
    // An input of an instance that is in a loop with a wire of the module in which that instance is.
    B.dueFault(45, pass + "module n(input j,output q);wire #w;p u(.i(w|j),.o(w));assign q=w;endmodule module m(input a);wire v;n u(.j(a),.q(v));endmodule");
    // Two outputs, each of the other input.
    String cross = "module p(input i,input j,output o,output q);assign o=j;assign q=i;endmodule ";
    B.circuit(cross + "module m(input a);wire v;wire w;p u(.i(a),.j(w),.o(v),.q(w));endmodule");
    B.dueFault(45, cross + "module m(input a);wire v;wire #w;p u(.i(w),.j(a),.o(v),.q(w));endmodule");
    // A module that is not used has no signals.
    B.circuit("module p(output o);assign o=o;endmodule module m();endmodule");
    B.circuit("module m0(input i,output o);assign o=i;endmodule " + passes(256));
    B.dueFault(45, "module m0(input i,output o);assign o=i;endmodule " + passes(255) + "module m(output #z);m255 u(.i(z),.o(z));endmodule");
  }

  private static String passes(int length) {
    StringBuilder s = new StringBuilder();
    for (int i = 1; i <= length; i++) s.append("module m" + i + "(input i,output o);m" + (i - 1) + " u(.i(i),.o(o));endmodule ");
    return s.toString();
  }

  private static void registersInLoops() {
    B.says("registers on nothing");
    B.circuit("module m();reg r;" + EDGE + "r<=~r;endmodule");
    B.circuit("module m();reg r;wire w;assign w=~r;" + EDGE + "r<=w;endmodule");
    B.circuit("module p(input i,output reg o);" + EDGE + "o<=i;endmodule module m();wire w;p u(.i(~w),.o(w));endmodule");
    B.circuit("module p(input i,output reg o);" + EDGE + "o<=i;endmodule module m();wire v;wire w;p u(.i(w),.o(v));p t(.i(v),.o(w));endmodule");
    B.dueFault(45, "module p(input i,output reg o,output q);assign q=i;" + EDGE + "o<=i;endmodule module m();wire v;wire #w;p u(.i(w|v),.o(v),.q(w));endmodule");
  }

  private static void loopBehindAll() {
    B.says("FAULT 45, looked for behind all of these, at the NAME where it is declared");
    String loop = "wire z;assign z=z;";
    B.dueFault(42, "module #m();" + loop + "reg[12:0]r;endmodule");
    B.dueFault(46, "module #m(input[5:0]i);" + loop + "reg[11:0]r;" + costing(65) + "endmodule");
    B.dueFault(45, "module m(input[5:0]i);wire /* z */ [0:0] #z;assign z=z;reg[11:0]r;" + costing(64) + "endmodule");
  }
}
