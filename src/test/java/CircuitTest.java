/** Part 4 of the document and promises 6, 7 and 8: numbers, limits, cost, loops. */
public final class CircuitTest {
  public static void main(String[] args) {
    Bench b = new Bench("CircuitTest");
    numbers(b);
    names(b);
    wrongAsked(b);
    costs(b);
    instanceLimits(b);
    otherLimits(b);
    workLimit(b);
    whichLimit(b);
    loops(b);
    b.end();
  }

  private static void numbers(Bench b) {
    String leaf = "module leaf(input i,output reg[1:0]q=2'd2,output o);wire w;assign o=w;assign w=i&q[0];assert(w);assert(o);endmodule\n";
    String pair = "module pair(input a);wire p;wire[1:0]u;leaf x(.i(a),.o(p),.q(u));wire z;assign z=p;wire t;wire[1:0]v;"
        + "leaf y(.i(z),.o(t),.q(v));endmodule ";
    String unused = "module unused(input[63:0]a);reg[63:0]r;assert(a*a);endmodule\n";
    String top = "\nmodule top(input[1:0]n,output f);pair k(.a(n[0]));reg s;assign f=s;pair l(.a(n[1]));input_ j();endmodule";
    String text = leaf + unused + pair + "module input_();wire c;assign c=1'b1;assert(c);endmodule" + top;
    CircuitCycles x = b.circuit(text);
    b.due("modules", x.count(0), 5);
    b.due("instances", x.count(1), 7);
    b.due("signals", x.count(2), 3 + 2 * (6 + 4 + 4) + 1);
    b.due("register bits", x.count(3), 1 + 4 * 2);
    b.due("input bits", x.count(4), 2);
    b.due("asserts", x.count(5), 4 * 2 + 1);
    b.due("cost", x.count(6), 4 * 3 + 1);
    String[] order = {"n", "f", "s", "k.a", "k.p", "k.u", "k.z", "k.t", "k.v", "k.x.i", "k.x.q", "k.x.o", "k.x.w", "k.y.i",
        "k.y.q", "k.y.o", "k.y.w", "l.a", "l.p", "l.u", "l.z", "l.t", "l.v", "l.x.i", "l.x.q", "l.x.o", "l.x.w", "l.y.i",
        "l.y.q", "l.y.o", "l.y.w", "j.c"};
    for (int i = 0; i < order.length; i++) b.due("find " + order[i], Bench.find(x, order[i]), i);
    b.due("width of n", x.signal(0, 0), 2);
    b.due("width of k.a", x.signal(3, 0), 1);
    b.due("width of l.y.q", x.signal(28, 0), 2);
    b.due("n is an input", x.signal(0, 1), 0);
    b.due("f is another one", x.signal(1, 1), 1);
    b.due("s is a register", x.signal(2, 1), 2);
    b.due("k.a is another one", x.signal(3, 1), 1);
    b.due("k.x.q is a register", x.signal(10, 1), 2);
    b.due("place of n", x.signal(0, 2), text.indexOf("n,output f"));
    b.due("place of k.a", x.signal(3, 2), text.indexOf("a);wire p"));
    b.due("place of l.a", x.signal(17, 2), text.indexOf("a);wire p"));
    b.due("place of k.x.q", x.signal(10, 2), text.indexOf("q=2'd2"));
    b.due("place of j.c", x.signal(31, 2), text.indexOf("c;assign c"));
    b.due("value of l.y.q", x.value(28), 2);
    CircuitCycles none = b.circuit("module m();endmodule");
    for (int i = 1; i <= 6; i++) b.due("count(" + i + ") of nothing", none.count(i), 0);
    b.dueThrow("value(0) of nothing", () -> none.value(0), IndexOutOfBoundsException.class);
    b.due("step of nothing", none.step(), 1);
    b.due("failing of nothing", none.failing(), 0);
  }

  private static void names(Bench b) {
    CircuitCycles x = b.circuit("module s(input a);wire ab;assign ab=a;endmodule module m(input a,input abc);wire ab ;"
        + "assign ab=a;s u (.a(a));s uu(.a(abc)) ; s a_$(.a(a));endmodule");
    String[] right = {"a", "abc", "ab", "u.a", "u.ab", "uu.a", "uu.ab", "a_$.a", "a_$.ab"};
    for (int i = 0; i < right.length; i++) b.due("find " + right[i], Bench.find(x, right[i]), i);
    String[] wrong = {"", "A", "b", "abcd", "u", "uu", "u.", ".a", "a.", "u.abc", "u..a", "uuu.a", " a", "a ", "ab ", "ab ;", "a,",
        "a,input", "u .a", "u. a", "u.a ", "m.a", "m", "s.a", "top.a", "a.a", "u.u.a", "u.uu.a", "a_", "a_.a", "a_$", "a_$a", "ab\n",
        "/**/a", "a\u0000", "\u00e9", ".", "..", "u (.a", "abc)", "a/**/", "assign", "module", "wire", "a_$.a.", "u.a.ab"};
    for (String w : wrong) b.due("find '" + w + "'", Bench.find(x, w), -1);
    Bench.feed(x, Bench.bytes("ab"), 0);
    x.find();
    b.dueThrow("the tape is empty behind find", () -> x.end(1), IllegalArgumentException.class);
    Bench.feed(x, Bench.bytes("zz"), 0);
    x.find();
    b.dueThrow("the tape is empty behind a find of nothing", () -> x.end(1), IllegalArgumentException.class);
    CircuitCycles y = new CircuitCycles();
    Bench.feed(y, Bench.bytes("module m();endmodule"), 0);
    b.dueThrow("find without a circuit", y::find, IllegalStateException.class);
    b.due("leaves the tape", y.read(), -1);
    CircuitCycles z = b.circuit("module m(input a$);endmodule");
    b.due("find a$", Bench.find(z, "a$"), 0);
    b.due("find a", Bench.find(z, "a"), -1);
    // Neither the first signal of the next instance nor what the tape had behind its end is part of it.
    CircuitCycles next = b.circuit("module s(input q);endmodule module m(input a);s u(.q(a));s v(.q(a));endmodule");
    b.due("find q", Bench.find(next, "q"), -1);
    b.due("find v.q", Bench.find(next, "v.q"), 2);
    Bench.feed(next, Bench.bytes("u.q"), 0);
    next.end(1);
    b.due("find u", next.find(), -1);
    Bench.feed(next, Bench.bytes("a.q"), 0);
    next.end(1);
    b.due("find a", next.find(), 0);
    CircuitCycles last = b.circuit("module q();endmodule module w(input w);endmodule");
    b.due("find w", Bench.find(last, "w"), 0);
  }

  private static void wrongAsked(Bench b) {
    CircuitCycles x = b.circuit("module m(input a);wire w;assign w=a;endmodule");
    int[] odd = {-1, 7, 8, Integer.MAX_VALUE, Integer.MIN_VALUE};
    for (int what : odd) b.dueThrow("count(" + what + ")", () -> x.count(what), IllegalArgumentException.class);
    int[] oddWhat = {-1, 3, Integer.MAX_VALUE, Integer.MIN_VALUE};
    for (int what : oddWhat) b.dueThrow("signal(1, " + what + ")", () -> x.signal(1, what), IllegalArgumentException.class);
    int[] oddSignal = {-1, 2, 1024, Integer.MAX_VALUE, Integer.MIN_VALUE};
    for (int s : oddSignal) {
      b.dueThrow("signal(" + s + ", 0)", () -> x.signal(s, 0), IndexOutOfBoundsException.class);
      b.dueThrow("signal(" + s + ", 9)", () -> x.signal(s, 9), IndexOutOfBoundsException.class);
    }
  }

  private static void cost(Bench b, String items, int want) {
    CircuitCycles x = b.circuit("module m(input[3:0]a,input c);wire[3:0]b;assign b=a;reg[2:0]r;" + items + " endmodule");
    b.due("cost of " + items, x.count(6), want);
  }

  private static void assigned(Bench b, int width, String exp, int want) {
    cost(b, "wire[" + (width - 1) + ":0]w;assign w=" + exp + ";", want);
  }

  private static void costs(Bench b) {
    assigned(b, 4, "~a+b", 8);
    assigned(b, 4, "c?a:b", 4);
    assigned(b, 4, "a<<c", 13);
    assigned(b, 1, "c>>a", 7);
    assigned(b, 4, "a*b", 16);
    assigned(b, 1, "a[c]", 4);
    assigned(b, 1, "c[a]", 4);
    assigned(b, 1, "!a&&c", 5);
    assigned(b, 1, "c||a", 4);
    assigned(b, 1, "a==b", 4);
    assigned(b, 1, "a<b", 4);
    assigned(b, 1, "a?c:c", 4);
    assigned(b, 1, "^a", 4);
    assigned(b, 1, "&!a", 5);
    assigned(b, 4, "a", 0);
    assigned(b, 4, "(((a)))", 0);
    assigned(b, 2, "a[2:1]", 0);
    assigned(b, 1, "a[3]", 0);
    assigned(b, 8, "{a,{2{a[1:0]}}}", 0);
    assigned(b, 64, "{16{a}}", 0);
    assigned(b, 20, "{5{a+b}}", 4);
    assigned(b, 1, "a[a[a]]", 8);
    assigned(b, 12, "{3{~a}}+{3{b}}", 16);
    cost(b, "assert(a);", 4);
    cost(b, "assert(a==b);", 5);
    String w = "always@(posedge clock)";
    cost(b, w + "r<=r;", 3);
    cost(b, w + "r[1]<=c;", 1);
    cost(b, w + "r[2:1]<=a[1:0];", 2);
    cost(b, w + "r<=r+r;", 6);
    cost(b, w + "if(a)begin end", 4);
    cost(b, w + "if(a==b)r<=r;else r[0]<=c;", 9);
    cost(b, w + "case(a)endcase", 0);
    cost(b, w + "case(a+b)endcase", 4);
    cost(b, w + "case(a)default:r<=r;endcase", 3);
    cost(b, w + "case(a)4'd1,4'd1:begin end 4'd2:r<=r;default:begin end endcase", 15);
    cost(b, w + "begin begin end end", 0);
    String sub = "module s(input[1:0]i,output o);assign o=i[0]|i[1];assert(o);endmodule ";
    CircuitCycles x = b.circuit(sub + "module m(input[1:0]a);wire p;wire q;s u(.i(~a),.o(p));s v(.i(a&a),.o(q));endmodule");
    b.due("cost of two instances", x.count(6), 2 + 2 + 2 * 2);
  }

  private static String repeated(String item, int from, int to) {
    StringBuilder s = new StringBuilder();
    for (int i = from; i < to; i++) s.append(item.replace("%", "" + i));
    return s.toString();
  }

  private static void instanceLimits(Bench b) {
    String e = "module e();endmodule ";
    CircuitCycles x = b.circuit(e + "module m();" + repeated("e u%();", 0, 256) + "endmodule");
    b.due("instances", x.count(1), 256);
    b.dueFault(40, e + "module #m();" + repeated("e u%();", 0, 257) + "endmodule");
    // 1 + 2 + 4 and so on: doubling goes far beyond every number.
    StringBuilder s = new StringBuilder("module m0();wire[63:0]w;assign w=~64'd0*64'd3;reg[63:0]r;assert(w);endmodule ");
    for (int i = 1; i <= 7; i++) s.append("module m" + i + "();m" + (i - 1) + " a();m" + (i - 1) + " b();endmodule ");
    b.dueFault(42, s.toString().replace("module m7(", "module #m7("));
    for (int i = 8; i <= 90; i++) s.append("module m" + i + "();m" + (i - 1) + " a();m" + (i - 1) + " b();endmodule ");
    b.dueFault(40, s.toString().replace("module m90(", "module #m90("));
    // A chain of instances, each in the one before it.
    StringBuilder chain = new StringBuilder("module m0(input i,output o);assign o=i;endmodule ");
    for (int i = 1; i <= 256; i++) {
      chain.append("module m" + i + "(input i,output o);m" + (i - 1) + " u(.i(i),.o(o));endmodule ");
    }
    x = b.circuit(chain.toString());
    b.due("instances of a chain", x.count(1), 256);
    b.due("signals of a chain", x.count(2), 514);
    b.due("out of a chain", x.value(1), 0);
    x.set(0, 1);
    b.due("through a chain", x.value(1), 1);
    b.due("its deepest signal", Bench.find(x, "u.".repeat(256) + "o"), 513);
    b.due("deeper than its deepest signal", Bench.find(x, "u.".repeat(257) + "o"), -1);
    chain.append("module #m257(input i,output o);m256 u(.i(i),.o(o));endmodule ");
    b.dueFault(40, chain.toString());
  }

  private static void otherLimits(Bench b) {
    String wires = repeated("wire w%;assign w%=1'b0;", 0, 1022);
    b.circuit("module m(input a);reg r;" + wires + "endmodule");
    b.dueFault(41, "module #m(input a,input b);reg r;" + wires + "endmodule");
    b.circuit("module s(input a);endmodule module m();" + repeated("wire w%;assign w%=1'b0;", 0, 1023) + "s u(.a(w1));endmodule");
    b.dueFault(41, "module s(input a);endmodule module #m(input z);" + repeated("wire w%;assign w%=1'b0;", 0, 1023)
        + "s u(.a(w1));endmodule");
    b.circuit("module m();reg[5:0]r;reg[4:0]s;reg t;endmodule");
    b.dueFault(42, "module #m();reg[5:0]r;reg[4:0]s;reg[1:0]t;endmodule");
    b.circuit("module s();reg[2:0]r;endmodule module m();" + repeated("s u%();", 0, 4) + "endmodule");
    b.dueFault(42, "module s();reg[2:0]r;endmodule module #m(output reg q);" + repeated("s u%();", 0, 4) + "endmodule");
    b.circuit("module m(input[2:0]a,input b,input[1:0]c);endmodule");
    b.dueFault(43, "module #m(input[2:0]a,input b,input[2:0]c);endmodule");
    b.circuit("module s(input[63:0]a);endmodule module m(input[5:0]i);s u(.a({58'd0,i}));endmodule");
    b.circuit("module m();wire[63:0]w;assign w=64'd3;" + repeated("assert(w);", 0, 23) + "assert(w[27:0]);endmodule");
    b.dueFault(44, "module #m();wire[63:0]w;assign w=64'd3;" + repeated("assert(w);", 0, 23) + "assert(w[28:0]);endmodule");
    b.dueFault(44, "module #m();wire[63:0]w;assign w=64'd3*64'd3;endmodule");
    b.circuit("module s();wire[63:0]w;assign w=64'd3*64'd3;endmodule module m();endmodule");
    b.dueFault(44, "module s();wire[37:0]w;assign w=38'd3*38'd3;endmodule module #m();s u();s v();endmodule");
  }

  private static void workLimit(Bench b) {
    // 12 and 6 bits: 64 is the highest cost; 12 and 5 bits: 128; no bits: 1500.
    b.circuit("module m(input[5:0]a);reg[11:0]r;" + repeated("assert(r);", 0, 5) + "assert(a[3:0]);endmodule");
    b.dueFault(46, "module #m(input[5:0]a);reg[11:0]r;" + repeated("assert(r);", 0, 5) + "assert(a[4:0]);endmodule");
    b.circuit("module m(input[5:0]a);reg[11:0]r;endmodule");
    b.circuit("module m(input[4:0]a);reg[11:0]r;" + repeated("assert(r);", 0, 10) + "assert(r[7:0]);endmodule");
    b.dueFault(46, "module #m(input[4:0]a);reg[11:0]r;" + repeated("assert(r);", 0, 10) + "assert(r[8:0]);endmodule");
  }

  private static void whichLimit(Bench b) {
    String heavy = repeated("assert(64'd1);", 0, 30);
    String loop = "wire z;assign z=z;";
    String e = "module e();endmodule ";
    String many = repeated("wire w%;assign w%=1'b0;", 0, 1024);
    String instances = repeated("e u%();", 0, 257);
    b.dueFault(40, e + "module #m(input[6:0]i);reg[12:0]r;" + many + heavy + loop + instances + "endmodule");
    b.dueFault(41, e + "module #m(input[6:0]i);reg[12:0]r;" + many + heavy + loop + "endmodule");
    b.dueFault(42, e + "module #m(input[6:0]i);reg[12:0]r;" + heavy + loop + "endmodule");
    b.dueFault(43, e + "module #m(input[6:0]i);reg[11:0]r;" + heavy + loop + "endmodule");
    b.dueFault(44, e + "module #m(input[5:0]i);reg[11:0]r;" + heavy + loop + "endmodule");
    b.dueFault(46, e + "module #m(input[5:0]i);reg[11:0]r;assert(64'd1);assert(64'd1);" + loop + "endmodule");
    b.dueFault(45, e + "module m(input[5:0]i);reg[11:0]r;assert(64'd1);wire #z;assign z=z;endmodule");
  }

  private static void loops(Bench b) {
    b.dueFault(45, "module m(output #o);assign o=o;endmodule");
    b.dueFault(45, "module m();wire[1:0]#w;assign w={w[0],1'b1};endmodule");
    b.dueFault(45, "module m();wire #w;wire v;assign w=v;assign v=w;endmodule");
    // w only asks those that are in the loop.
    b.dueFault(45, "module m();wire w;wire #u;wire v;assign w=v;assign v=u;assign u=v;endmodule");
    // a is between two loops, in none of them.
    b.dueFault(45, "module m();wire a;wire b;wire #c;wire d;assign d=d|a;assign a=b|c;assign b=1'b1;assign c=c;endmodule");
    b.circuit("module m();reg r;wire w;assign w=~r;always@(posedge clock)r<=w;endmodule");
    b.circuit("module m();reg r;always@(posedge clock)r<=~r;endmodule");
    b.dueFault(45, "module m(input a);wire #w;assign w=a?1'b1:w;endmodule");
    b.dueFault(45, "module m(input a);wire #w;assign w=a[w];endmodule");
    b.dueFault(45, "module m(input a);wire #w;assign w=1'b0&w;endmodule");
    b.dueFault(45, "module m(input a);wire #w;assign w=w[0];endmodule");
    String pass = "module p(input i,output o);assign o=i;endmodule ";
    b.circuit(pass + "module m(input a);wire w;wire v;p x(.i(a),.o(w));p y(.i(w),.o(v));endmodule");
    b.dueFault(45, pass + "module m(input a);wire #w;p x(.i(w),.o(w));endmodule");
    b.dueFault(45, pass + "module m(input a);wire v;wire #w;p x(.i(~v&w),.o(w));assign v=a;endmodule");
    String hold = "module p(input i,output reg o);always@(posedge clock)o<=i;endmodule ";
    b.circuit(hold + "module m();wire w;p x(.i(~w),.o(w));endmodule");
    // Ports of one instance do not depend on one another if nothing inside says so.
    b.circuit("module p(input i,input j,output o,output q);assign o=i;assign q=j;endmodule module m(input a);wire v;wire w;"
        + "p x(.i(a),.j(v),.o(v),.q(w));endmodule");
    b.dueFault(45, "module p(input i,output o);wire #w;assign w=w;assign o=i;endmodule module m(input a);wire v;"
        + "p x(.i(a),.o(v));endmodule");
    b.dueFault(45, "module p(input i,output #o);assign o=o|i;endmodule module m(input a);wire v;p x(.i(a),.o(v));endmodule");
    // In a module that is not used nothing is a signal.
    b.circuit("module p(output o);assign o=o;endmodule module m();endmodule");
    // A long way: each wire from the one declared behind it.
    StringBuilder s = new StringBuilder("module m(input a);");
    for (int i = 0; i < 1023; i++) s.append("wire w" + i + ";");
    for (int i = 0; i < 1022; i++) s.append("assign w" + i + "=w" + (i + 1) + ";");
    CircuitCycles x = b.circuit(s + "assign w1022=a;endmodule");
    x.set(0, 1);
    b.due("the end of a long way", x.value(1), 1);
    b.dueFault(45, s.toString().replace("wire w700;", "wire #w700;") + "assign w1022=w700;endmodule");
  }
}
