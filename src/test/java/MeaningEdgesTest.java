/** Part 3 of the document, MEANING: each sentence that names an edge, with the answers on both of its sides. */
public final class MeaningEdgesTest {
  private static final Bench B = new Bench("MeaningEdgesTest");
  private static final int[] WIDTHS = {1, 2, 31, 32, 33, 63, 64};
  /** A top of its own: what stands before it is read, but has no cost and no signals. */
  private static final String TOP = " module top();endmodule";
  private static final String EDGE = "always@(posedge clock)";

  public static void main(String[] args) {
    moduleNames();
    declaredTwice();
    kindsOfNames();
    usedBehind();
    usedInExp();
    usedBeforeSigns();
    usedModules();
    linkNames();
    unlinked();
    outputs();
    ranges();
    begins();
    parts();
    storedParts();
    signsBefore();
    anyTwo();
    sameTwo();
    shifts();
    choices();
    indices();
    allWidths();
    braces();
    repeats();
    placesOfWidths();
    beforeSigns();
    linkWidths();
    caseWidths();
    drivenTwice();
    severalAlways();
    undriven();
    operandsFirst();
    assignmentsInOrder();
    linksInOrder();
    instancesInOrder();
    firstMet();
    B.end();
  }

  private static void moduleNames() {
    B.says("20 at a module's NAME: an earlier module has it.");
    B.dueFault(20, "module m();endmodule module #m();endmodule");
    B.dueFault(20, "module m();endmodule module n();endmodule module #m();endmodule");
    B.dueFault(20, "module m();endmodule module n();endmodule module #n();endmodule");
    B.circuit("module m();endmodule module M();endmodule module m_();endmodule module mm();endmodule");
    // A module and a name inside of one are not in each other's way.
    B.circuit("module m(input m);endmodule module n(input m,input n);endmodule");
  }

  /** How a name x is declared: as a port, or as an item. */
  private static final String[] PORTS = {"input %x", "output %x", "output reg %x"};
  private static final String[] ITEMS = {"wire %x;", "reg %x;", "e %x();"};

  private static void declaredTwice() {
    B.says("21 at a declared NAME: its module has it already.");
    for (String first : PORTS) {
      String one = first.replace("%", "");
      for (String second : PORTS) B.dueFault(21, "module e();endmodule module m(" + one + "," + second.replace("%", "#") + ");endmodule");
      for (String second : ITEMS) B.dueFault(21, "module e();endmodule module m(" + one + ");" + second.replace("%", "#") + "endmodule");
    }
    for (String first : ITEMS) {
      String one = first.replace("%", "");
      for (String second : ITEMS) B.dueFault(21, "module e();endmodule module m();" + one + second.replace("%", "#") + "endmodule");
    }
    B.circuit("module m(input x);endmodule module n(input x);endmodule module o();reg x;endmodule");
    B.circuit("module m();reg x;reg X;reg x_;reg xx;reg x$;endmodule");
  }

  /** In each pair the first one may be done with the name, the second one not. */
  private static void kindsOfNames() {
    B.says("A module's names are its ports, wires, registers (reg, output reg) and instances; a DRIVEN one is a wire or an output that is no register.");
    String assign = "assign x=1'b1;";
    String store = EDGE + "x<=1'b1;";
    String[] declared = {"m(output x);", "m();wire x;", "m(output reg x);", "m();reg x;", "m(input x);", "m();e x();"};
    for (int i = 0; i < declared.length; i++) {
      String text = "module e();endmodule module " + declared[i];
      int place = text.length();
      B.dueRead(i < 2 ? 0 : 22, place + 7, text + assign + "endmodule");
      B.dueRead(i == 2 || i == 3 ? 0 : 22, place + EDGE.length(), text + store + (i < 2 ? assign : "") + "endmodule");
      B.dueRead(i < 5 ? 0 : 22, place + 7, text + "assert(x);" + (i < 2 ? assign : "") + "endmodule");
      // What must be driven: a driven one and nothing else.
      B.dueRead(i < 2 ? 33 : 0, text.lastIndexOf('x'), text + "endmodule");
    }
  }

  private static void usedBehind() {
    B.says("A name can be used behind where it is declared.");
    B.circuit("module m();wire a;assign a=1'b1;endmodule");
    B.dueFault(22, "module m();assign #a=1'b1;wire a;endmodule");
    B.circuit("module m();reg a;assert(a);endmodule");
    B.dueFault(22, "module m();assert(#a);reg a;endmodule");
    B.circuit("module m();reg a;" + EDGE + "a<=a;endmodule");
    B.dueFault(22, "module m();" + EDGE + "#a<=1'b1;reg a;endmodule");
    B.dueFault(22, "module m();reg a;" + EDGE + "a<=#b;reg b;endmodule");
    B.dueFault(22, "module s(input i);endmodule module m();s u(.i(#a));reg a;endmodule");
    // Not in the next module.
    B.dueFault(22, "module m();reg a;endmodule module n();assert(#a);endmodule");
    B.dueFault(22, "module m();reg a;endmodule module n();" + EDGE + "#a<=1'b1;endmodule");
    B.dueFault(22, "module m();wire a;assign a=1'b1;endmodule module n();assign #a=1'b1;endmodule");
  }

  private static final String KINDS =
      "module e();endmodule module o(output q);assign q=1'b1;endmodule module m(input in,output out,output reg outr);wire w;reg r;e u();";
  private static final String[] NAMES = {"in", "out", "outr", "w", "r", "u", "z", "e", "m", "q"};

  private static boolean isDriven(String name) {
    return name.equals("out") || name.equals("w");
  }

  private static boolean isRegister(String name) {
    return name.equals("outr") || name.equals("r");
  }

  private static boolean isValue(String name) {
    return isDriven(name) || isRegister(name) || name.equals("in");
  }

  /** What is driven nowhere else is assigned behind it, so that nothing else is wrong. */
  private static String rest(String driven) {
    return (driven.equals("out") ? "" : "assign out=in;") + (driven.equals("w") ? "" : "assign w=in;") + "endmodule";
  }

  private static void usedInExp() {
    B.says("22 at a used NAME: it is not declared in the module, or not what may stand there: in exp a port, wire or register");
    for (String name : NAMES) {
      if (isValue(name)) {
        B.circuit(KINDS + "assert(" + name + ");" + rest(""));
        B.circuit(KINDS + "assert(" + name + "[0]);" + rest(""));
      } else {
        B.dueFault(22, KINDS + "assert(#" + name + ");" + rest(""));
        B.dueFault(22, KINDS + "assert(#" + name + "[0]);" + rest(""));
        B.dueFault(22, KINDS + "assert(#" + name + "[in]);" + rest(""));
        B.dueFault(22, KINDS + "assert(in[#" + name + "]);" + rest(""));
        B.dueFault(22, KINDS + EDGE + "if(#" + name + ")r<=r;" + rest(""));
        B.dueFault(22, KINDS + EDGE + "case(#" + name + ")endcase " + rest(""));
        B.dueFault(22, KINDS + EDGE + "r<=#" + name + ";" + rest(""));
      }
    }
  }

  private static void usedBeforeSigns() {
    B.says("before = of assign a driven one");
    for (String name : NAMES) {
      if (isDriven(name)) B.circuit(KINDS + "assign " + name + "=in;" + rest(name));
      else B.dueFault(22, KINDS + "assign #" + name + "=in;" + rest(""));
    }
    B.says("before <= a register");
    for (String name : NAMES) {
      if (isRegister(name)) B.circuit(KINDS + EDGE + name + "<=in;" + rest(""));
      else B.dueFault(22, KINDS + EDGE + "#" + name + "<=in;" + rest(""));
    }
  }

  private static void usedModules() {
    B.says("of an instance, first, an earlier module");
    B.circuit(KINDS + "e v();" + rest(""));
    for (String name : NAMES) {
      if (!name.equals("e")) B.dueFault(22, KINDS + "#" + name + " v();" + rest(""));
    }
    B.dueFault(22, "module m();#n v();endmodule module n();endmodule");
    B.dueFault(22, "module m();#m v();endmodule");
    B.circuit("module e();endmodule module m();e e();endmodule");
  }

  private static final String SUB = "module first(input a,input b,output c);reg d;assign c=a;endmodule "
      + "module s(input[1:0]i,output[2:0]o,output reg q);wire w;reg r;assign w=i[0];assign o={w,i};endmodule module m(input a,input[1:0]b);wire[2:0]x;wire y;reg z;";

  private static void linkNames() {
    B.says("23 at a link's NAME: the module has no such port, or it was linked already.");
    B.circuit(SUB + "s u(.i(b),.o(x),.q(y));endmodule");
    B.circuit(SUB + "s u(.q(y),.o(x),.i(b));endmodule");
    for (String name : new String[] {"w", "r", "j", "a", "b", "x", "s", "u", "m", "I", "ii"}) {
      B.dueFault(23, SUB + "s u(.i(b),.o(x),.q(y),.#" + name + "(a));endmodule");
      B.dueFault(23, SUB + "s u(.#" + name + "(a),.i(b),.o(x),.q(y));endmodule");
    }
    for (String again : new String[] {"i(b)", "o(x)", "q(y)"}) B.dueFault(23, SUB + "s u(.i(b),.o(x),.q(y),.#" + again + ");endmodule");
    B.dueFault(23, SUB + "s u(.i(b),.#i(b));endmodule");
    B.dueFault(23, "module e();endmodule module m();e u(.#a(1'b1));endmodule");
    // Another instance of the same module begins anew.
    B.circuit(SUB + "s u(.i(b),.o(x),.q(y));wire[2:0]x2;wire y2;s v(.i(b),.o(x2),.q(y2));endmodule");
  }

  private static void unlinked() {
    B.says("24 at an instance's own NAME: a port is not linked (met at its ;).");
    B.circuit("module e();endmodule module m();e u();endmodule");
    String[] links = {".i(b)", ".o(x)", ".q(y)"};
    B.dueFault(24, SUB + "s #u();endmodule");
    for (int one = 0; one < 3; one++) {
      B.dueFault(24, SUB + "s #u(" + links[one] + ");endmodule");
      B.dueFault(24, SUB + "s #u(" + links[one] + "," + links[(one + 1) % 3] + ");endmodule");
    }
    // At the ; and not before it: faults of the links come first, those behind the ; do not.
    B.dueFault(22, SUB + "s u(.i(#zz));endmodule");
    B.dueFault(23, SUB + "s u(.i(b),.#zz(b));endmodule");
    B.dueFault(24, SUB + "s #u(.i(b));assert(zz);endmodule");
    B.dueFault(24, SUB + "s #u(.i(b));reg b;endmodule");
  }

  private static void outputs() {
    B.says("25 at the first token of a link's exp: the port is an output, and exp is no NAME alone (without parentheses) of a driven one.");
    String link = KINDS + "o v(.q(%));";
    for (String name : NAMES) {
      if (isDriven(name)) B.circuit(link.replace("%", name) + rest(name));
      else B.dueFault(isValue(name) ? 25 : 22, link.replace("%", "#" + name) + rest(""));
    }
    for (String exp : new String[] {"(w)", "{w}", "~w", "w[0]", "w[0:0]", "w[in]", "w|w", "w?w:w", "1'b1", "{1{w}}", "!w", "((w))"}) {
      B.dueFault(25, link.replace("%", "#" + exp) + rest(""));
      B.dueFault(25, link.replace("%", " #" + exp + " ") + rest(""));
    }
    B.circuit(link.replace("%", " /* */ w // \n ") + rest("w"));
    // An output that is a register is one, too.
    B.circuit(SUB + "s u(.i(b),.o(x),.q(y));endmodule");
    B.dueFault(25, SUB + "s u(.i(b),.o(x),.q(#z));endmodule");
    B.dueFault(25, SUB + "s u(.i(b),.o(x),.q(#(y)));endmodule");
    // An input takes any exp.
    B.circuit(SUB + "s u(.i((b)),.o(x),.q(y));endmodule");
    B.circuit(SUB + "s u(.i({a,z}),.o(x),.q(y));endmodule");
  }

  private static void ranges() {
    B.says("a range is [h : 0], h 0 .. 63, and its width h + 1, without a range 1; else at its [");
    for (String kind : new String[] {"(input%a);", "(output reg%a);", "();reg%a;"}) {
      String text = "module m" + kind + "endmodule";
      for (int h = 0; h <= 63; h++) {
        String t = text.replace("%", "[" + h + ":0]") + TOP;
        B.circuit(t);
      }
      for (String bad : new String[] {"[64:0]", "[65:0]", "[127:0]", "[128:0]", "[256:0]", "[65535:0]", "[0:1]", "[1:1]", "[63:1]", "[0:63]",
          "[63:63]", "[65535:65535]", "[64:1]", "[0:65535]"}) {
        B.dueFault(30, text.replace("%", " #" + bad + " ") + TOP);
      }
      B.circuit(text.replace("%", " ") + TOP);
    }
    CircuitCycles x = B.circuit("module m(output[63:0]a,output[0:0]b,output c);assign a=64'd1;assign b=1'b1;assign c=1'b1;endmodule");
    B.due("width of [63:0]", x.signal(0, 0), 64);
    B.due("width of [0:0]", x.signal(1, 0), 1);
    B.due("width without a range", x.signal(2, 0), 1);
    B.dueFault(30, "module m(output#[64:0]a);endmodule");
    B.dueFault(30, "module m();wire#[64:0]a;endmodule");
    // A range counts for one name alone.
    B.due("width behind a range", B.circuit("module m(input[2:0]a,input b);endmodule").signal(1, 0), 1);
  }

  private static void begins() {
    B.says("A value that a register begins with has its width (at the SIZED).");
    for (int w : WIDTHS) {
      for (int v : WIDTHS) {
        String front = "module m(output reg[" + (w - 1) + ":0]q=" + (v == w ? "" : "#") + v + "'d1);endmodule" + TOP;
        String item = "module m();reg[" + (w - 1) + ":0]q=" + (v == w ? "" : "#") + v + "'d1;endmodule" + TOP;
        if (v == w) {
          B.circuit(front);
          B.circuit(item);
        } else {
          B.dueFault(30, front);
          B.dueFault(30, item);
        }
      }
    }
    B.circuit("module m();reg q=1'b1;endmodule");
    B.dueFault(30, "module m();reg q=#2'b1;endmodule");
  }

  private static String wire(String name, int width) {
    return "wire[" + (width - 1) + ":0]" + name + ";assign " + name + "=" + width + "'d0;";
  }

  /** An exp of a and b, put into what is of that width: no fault, or 30 at the mark. */
  private static void dueExp(boolean fits, String widths, String marked) {
    String[] w = widths.split(" ");
    String text = "module m();" + wire("a", Integer.parseInt(w[0])) + wire("b", Integer.parseInt(w[1])) + wire("c", 1)
        + "wire[" + (Integer.parseInt(w[2]) - 1) + ":0]o;assign o";
    if (fits) B.circuit(text + "=" + marked.replace("#", "") + ";endmodule" + TOP);
    else B.dueFault(30, text + (marked.indexOf('#') >= 0 ? "=" : "#=") + marked + ";endmodule" + TOP);
  }

  /** That exp of those two widths is of that width and of no other one. */
  private static void dueWidth(int wa, int wb, int want, String exp) {
    for (int w : WIDTHS) dueExp(w == want, wa + " " + wb + " " + w, exp);
  }

  private static void parts() {
    B.says("A part [k] is of width 1, [h : l] of width h - l + 1, and lies within its name's width (at its [).");
    for (int w : WIDTHS) {
      dueWidth(w, 1, 1, "a[0]");
      dueWidth(w, 1, 1, "a[" + (w - 1) + "]");
      dueWidth(w, 1, w, "a[" + (w - 1) + ":0]");
      dueWidth(w, 1, 1, "a[" + (w - 1) + ":" + (w - 1) + "]");
      for (String bad : new String[] {"[" + w + "]", "[" + w + ":0]", "[" + w + ":" + w + "]", "[65535]", "[65535:0]", "[65535:65535]", "[0:1]",
          "[0:65535]", "[" + (w - 1) + ":" + w + "]", "[256]", "[65535:65534]"}) {
        dueExp(false, w + " 1 1", "a #" + bad);
      }
    }
    dueWidth(64, 1, 63, "a[63:1]");
    dueWidth(64, 1, 2, "a[63:62]");
    dueWidth(64, 1, 32, "a[32:1]");
  }

  private static void storedParts() {
    B.says("[h : l] of width h - l + 1, and lies within its name's width (at its [)");
    String[] right = {"r[0]<=a", "r[3]<=a", "r[3:3]<=a", "r[3:0]<=r", "r[2:1]<={a,a}"};
    for (String s : right) B.circuit("module m(input a);reg[3:0]r;" + EDGE + s + ";endmodule");
    String[] wrong = {"r#[4]<=a", "r#[4:4]<=a", "r#[4:0]<=r", "r#[0:1]<=a", "r#[65535]<=a", "r#[65535:65535]<=a", "r#[3:4]<=a", "r#[0:65535]<=a"};
    for (String s : wrong) B.dueFault(30, "module m(input a);reg[3:0]r;" + EDGE + s + ";endmodule");
    B.circuit("module m(input a);reg r;" + EDGE + "r[0]<=a;endmodule");
    B.dueFault(30, "module m(input a);reg r;" + EDGE + "r#[1]<=a;endmodule");
    B.circuit("module m(input a);reg[63:0]r;" + EDGE + "r[63]<=a;endmodule" + TOP);
    B.dueFault(30, "module m(input a);reg[63:0]r;" + EDGE + "r#[64]<=a;endmodule" + TOP);
  }

  private static void signsBefore() {
    B.says("~ and - leave the width; ! & | ^ before make 1");
    for (int w : WIDTHS) {
      for (String sign : "~ -".split(" ")) dueWidth(w, 1, w, sign + "a");
      for (String sign : "! & | ^".split(" ")) dueWidth(w, 1, 1, sign + "a");
      dueWidth(w, 1, 1, "-!a");
      dueWidth(w, 1, 1, "!-a");
    }
  }

  private static void anyTwo() {
    B.says("&& || make 1 of any two");
    for (int wa : WIDTHS) {
      for (int wb : WIDTHS) {
        dueWidth(wa, wb, 1, "a&&b");
        dueWidth(wa, wb, 1, "a||b");
      }
    }
  }

  private static void sameTwo() {
    B.says("== != < <= > >= make 1 of two that are the same; + - * & | ^ of two that are the same make that");
    for (int wa : WIDTHS) {
      for (int wb : WIDTHS) {
        for (String op : "== != < <= > >=".split(" ")) {
          if (wa == wb) dueWidth(wa, wb, 1, "a" + op + "b");
          else dueExp(false, wa + " " + wb + " 1", "a#" + op + "b");
        }
        for (String op : "+ - * & | ^".split(" ")) {
          if (wa == wb) dueWidth(wa, wb, wa, "a" + op + "b");
          else dueExp(false, wa + " " + wb + " " + wa, "a#" + op + "b");
        }
      }
    }
  }

  private static void shifts() {
    B.says("<< >> of any two the first one");
    for (int wa : WIDTHS) {
      for (int wb : WIDTHS) {
        dueWidth(wa, wb, wa, "a<<b");
        dueWidth(wa, wb, wa, "a>>b");
      }
    }
  }

  private static void choices() {
    B.says("? of any condition and two that are the same that");
    for (int wa : WIDTHS) {
      for (int wb : WIDTHS) {
        dueWidth(wa, wb, wb, "a?b:b");
        if (wa != wb) dueExp(false, wa + " " + wb + " " + wb, "c#?a:b");
      }
    }
  }

  private static void indices() {
    B.says("NAME [ exp ] makes 1 of any");
    for (int wa : WIDTHS) {
      for (int wb : WIDTHS) dueWidth(wa, wb, 1, "a[b]");
    }
  }

  private static void allWidths() {
    B.says("30: widths do not go together (all widths are 1 .. 64)");
    dueExp(true, "1 1 1", "a");
    dueExp(true, "64 1 64", "a");
    dueExp(true, "63 1 64", "{a,b}");
    dueExp(false, "64 1 64", "#{a,b}");
    dueExp(false, "64 1 64", "#{0{a}}");
    B.dueFault(30, "module m(input#[64:0]a);endmodule" + TOP);
    B.dueFault(1, "module m();assert(#65'd1);endmodule" + TOP);
    B.dueFault(1, "module m();assert(#0'd0);endmodule" + TOP);
  }

  private static void braces() {
    B.says("{ , } the sum");
    for (int wa : WIDTHS) {
      for (int wb : WIDTHS) {
        int sum = wa + wb;
        if (sum > 64) dueExp(false, wa + " " + wb + " 64", "#{a,b}");
        else dueExp(true, wa + " " + wb + " " + sum, "{a,b}");
      }
      dueWidth(wa, 1, wa, "{a}");
    }
    dueExp(true, "1 1 64", "{" + "a,".repeat(63) + "b}");
    dueExp(false, "1 1 64", "#{" + "a,".repeat(64) + "b}");
    dueExp(false, "1 1 1", "#{" + "a,".repeat(64) + "b}");
    // So many that the sum would wrap around in a byte or in sixteen bits.
    dueExp(false, "1 1 1", "#{" + "a,".repeat(256) + "b}");
    dueExp(false, "64 1 1", "#{" + "a,".repeat(1024) + "b}");
    dueExp(false, "64 64 64", "#{" + "a,".repeat(4) + "b}");
  }

  private static void repeats() {
    B.says("{ n { } } n times that, n not 0");
    for (int w : WIDTHS) {
      int most = 64 / w;
      dueExp(true, w + " 1 " + w, "{1{a}}");
      dueExp(true, w + " 1 " + most * w, "{" + most + "{a}}");
      for (int n : new int[] {0, most + 1, 65, 256, 1024, 32768, 65535}) dueExp(false, w + " 1 " + w, "#{" + n + "{a}}");
    }
    dueExp(false, "1 1 1", "#{00{a}}");
    dueExp(false, "1 1 1", "{a,#{0{b}}}");
    dueWidth(1, 1, 2, "{2{a}}");
    dueWidth(1, 1, 63, "{63{a}}");
    dueWidth(32, 1, 64, "{2{a}}");
  }

  private static void placesOfWidths() {
    B.says("At the operator (? and not :), at the { that begins it (of { n { } } the outer one) when the width would be 0 or above 64.");
    dueExp(false, "1 2 1", "c #? a : b");
    dueExp(false, "1 2 1", "c ? c #? a : b : a");
    dueExp(false, "1 2 1", "c ? a : c #? a : b");
    dueExp(false, "64 1 64", "#{ a , b }");
    dueExp(false, "64 1 64", "#{ 2 { a } }");
    dueExp(false, "64 1 64", "{ b , #{ 2 { a } } }");
    dueExp(false, "64 1 64", "{ #{ a , b } , b }");
    dueExp(false, "1 1 1", "#{ 0 { a } }");
    dueExp(false, "1 2 1", "a #+ b");
    dueExp(false, "1 2 1", "( a ) #<= ( b )");
  }

  private static void beforeSigns() {
    B.says("Before <= and = of assign: at that sign.");
    for (int w : WIDTHS) {
      for (int v : WIDTHS) {
        String mark = v == w ? "" : "#";
        String assign = "module m();wire[" + (w - 1) + ":0]o;assign o " + mark + "= " + v + "'d1;endmodule" + TOP;
        String store = "module m();reg[" + (w - 1) + ":0]o;" + EDGE + "o " + mark + "<= " + v + "'d1;endmodule" + TOP;
        String part = "module m();reg[63:0]o;" + EDGE + "o[" + (w - 1) + ":0] " + mark + "<= " + v + "'d1;endmodule" + TOP;
        for (String text : new String[] {assign, store, part}) {
          if (v == w) B.circuit(text);
          else B.dueFault(30, text);
        }
      }
    }
    B.dueFault(30, "module m();reg[3:0]r;" + EDGE + "r[1]#<=r[1:0];endmodule");
  }

  private static void linkWidths() {
    B.says("A link: at its .");
    for (int w : WIDTHS) {
      for (int v : WIDTHS) {
        String mark = v == w ? "" : "#";
        String in = "module s(input[" + (w - 1) + ":0]i);endmodule module m();s u( " + mark + ".i(" + v + "'d1));endmodule" + TOP;
        String out = "module s(output[" + (w - 1) + ":0]i);assign i=" + w + "'d1;endmodule module m();wire[" + (v - 1) + ":0]x;s u( " + mark
            + ".i(x));endmodule" + TOP;
        for (String text : new String[] {in, out}) {
          if (v == w) B.circuit(text);
          else B.dueFault(30, text);
        }
      }
    }
  }

  private static void caseWidths() {
    B.says("a case's SIZED, of another width than its exp: at that");
    for (int w : WIDTHS) {
      for (int v : WIDTHS) {
        String front = "module m();" + wire("a", w) + EDGE + "case(a)";
        if (v == w) {
          B.circuit(front + w + "'d0," + v + "'d1:begin end endcase endmodule" + TOP);
        } else {
          B.dueFault(30, front + w + "'d0,#" + v + "'d1:begin end endcase endmodule" + TOP);
          B.dueFault(30, front + "#" + v + "'d1:begin end endcase endmodule" + TOP);
          B.dueFault(30, front + w + "'d0:begin end #" + v + "'d1:begin end endcase endmodule" + TOP);
        }
      }
    }
    // The exp of the outer case counts again behind the inner one.
    B.circuit("module m(input a,input[1:0]b);" + EDGE + "case(a)1'b0:case(b)2'd0:begin end endcase 1'b1:begin end endcase endmodule");
    B.dueFault(30, "module m(input a,input[1:0]b);" + EDGE + "case(a)1'b0:case(b)2'd0:begin end endcase #2'd1:begin end endcase endmodule");
  }

  private static void drivenTwice() {
    B.says("31 at a NAME that is driven a second time (before =, or as a link's exp).");
    String s = "module s(output o,output p);assign o=1'b1;assign p=1'b1;endmodule module m(output q);wire w;wire v;";
    B.circuit(s + "assign w=1'b1;assign q=1'b1;assign v=1'b1;endmodule");
    B.dueFault(31, s + "assign w=1'b1;assign #w=1'b1;endmodule");
    B.dueFault(31, s + "assign q=1'b1;assign #q=1'b1;endmodule");
    B.dueFault(31, s + "assign w=w;assign v=1'b1;assign #w=1'b1;endmodule");
    B.dueFault(31, s + "s u(.o(w),.p(v));assign #w=1'b1;endmodule");
    B.dueFault(31, s + "assign w=1'b1;s u(.o(#w),.p(v));endmodule");
    B.dueFault(31, s + "s u(.o(w),.p(#w));endmodule");
    B.dueFault(31, s + "s u(.o(w),.p(v));s t(.o(q),.p(#v));endmodule");
    B.circuit(s + "s u(.o(w),.p(v));assign q=1'b1;endmodule");
    // A link to an input drives nothing.
    B.circuit("module i(input a);endmodule module m();wire w;i u(.a(w));i v(.a(w));assign w=1'b1;endmodule");
    B.circuit("module m();wire w;assign w=1'b1;endmodule module n();wire w;assign w=1'b1;endmodule");
  }

  private static void severalAlways() {
    B.says("32 at a NAME before <=: an earlier always of the module has it before one of its <=.");
    B.circuit("module m();reg r;" + EDGE + "begin r<=r;r<=r;end endmodule");
    B.circuit("module m();reg r;reg s;" + EDGE + "r<=s;" + EDGE + "s<=r;endmodule");
    B.dueFault(32, "module m();reg r;" + EDGE + "r<=r;" + EDGE + "#r<=r;endmodule");
    B.dueFault(32, "module m();reg r;" + EDGE + "r<=r;" + EDGE + "begin end " + EDGE + "#r<=r;endmodule");
    B.dueFault(32, "module m();reg[1:0]r;" + EDGE + "r[0]<=r[0];" + EDGE + "#r[1]<=r[1];endmodule");
    B.dueFault(32, "module m();reg r;" + EDGE + "if(1'b0)r<=r;" + EDGE + "#r<=r;endmodule");
    B.dueFault(32, "module m();reg r;reg s;" + EDGE + "s<=s;" + EDGE + "r<=r;" + EDGE + "begin #s<=s;r<=r;end endmodule");
    B.circuit("module m();reg r;" + EDGE + "if(r)begin end " + EDGE + "r<=r;endmodule");
    // Another module has its own ones, with the same names.
    B.circuit("module m();reg r;" + EDGE + "r<=r;endmodule module n();reg r;" + EDGE + "r<=r;endmodule");
    B.circuit("module m();reg r;" + EDGE + "r<=r;endmodule module n();reg q;reg r;" + EDGE + "q<=r;" + EDGE + "r<=q;endmodule");
  }

  private static void undriven() {
    B.says("33 at the NAME where a driven one is declared, met at endmodule, in their order: nothing drives it.");
    B.dueFault(33, "module m();wire #w;endmodule");
    B.dueFault(33, "module m(output #w);endmodule");
    B.circuit("module m(output reg w,input v);reg u;endmodule");
    B.dueFault(33, "module m(output #p,output q);wire w;endmodule");
    B.dueFault(33, "module m(output p,output #q);wire w;assign p=1'b1;endmodule");
    B.dueFault(33, "module m(output p,output q);wire #w;assign q=1'b1;assign p=1'b1;endmodule");
    B.dueFault(33, "module m();wire a;wire #b;wire c;assign c=b;assign a=b;endmodule");
    // Met at endmodule: what is wrong before that comes first, what is wrong behind it does not.
    B.dueFault(22, "module m();wire w;assert(#z);endmodule");
    B.dueFault(21, "module m();wire w;reg #w;endmodule");
    B.dueFault(33, "module m();wire #w;endmodule module m();endmodule");
    B.dueFault(33, "module m();wire #w;endmodule module n();assert(z);endmodule");
  }

  private static final String AB = "module m(input a,input[1:0]b);assert(";

  private static void operandsFirst() {
    B.says("In an exp operands are met before their operator, from the left; a name before its part");
    B.dueFault(22, AB + "#z+y);endmodule");
    B.dueFault(22, AB + "a+#y);endmodule");
    B.dueFault(22, AB + "a+(b+#y));endmodule");
    B.dueFault(30, AB + "a#+b+y);endmodule");
    B.dueFault(22, AB + "a+b*#y);endmodule");
    B.dueFault(22, AB + "a?b:#y);endmodule");
    B.dueFault(22, AB + "a?#y:b);endmodule");
    B.dueFault(22, AB + "#y?a:b);endmodule");
    B.dueFault(30, AB + "(a#?a:b)+y);endmodule");
    B.dueFault(22, AB + "{{32{b}},#y});endmodule");
    B.dueFault(22, AB + "{0{#y}});endmodule");
    B.dueFault(22, AB + "#y[9]);endmodule");
    B.dueFault(22, AB + "#y[z]);endmodule");
    B.dueFault(22, AB + "b[#z]);endmodule");
    B.dueFault(30, AB + "b#[9]+y);endmodule");
    B.dueFault(30, AB + "b#[9]?y:z);endmodule");
  }

  private static void assignmentsInOrder() {
    B.says("of an assignment the name (22, then 31 or 32) and part, then exp, then the sign");
    B.dueFault(22, "module m();wire w;assign #z=y;endmodule");
    B.dueFault(31, "module m();wire w;assign w=1'b1;assign #w=y;endmodule");
    B.dueFault(31, "module m();wire w;assign w=1'b1;assign #w=2'd1;endmodule");
    B.dueFault(22, "module m();wire w;assign w={#y,1'b1};endmodule");
    B.dueFault(30, "module m();wire w;assign w=1'b1#+2'd1;endmodule");
    B.dueFault(30, "module m();wire w;assign w#=1'b1&&2'd1?2'd1:2'd2;endmodule");
    String r = "module m();reg[1:0]r;" + EDGE;
    B.dueFault(22, r + "#z[9]<=y;endmodule");
    B.dueFault(32, r + "r<=r;" + EDGE + "#r[9]<=y;endmodule");
    B.dueFault(30, r + "r#[9]<=y;endmodule");
    B.dueFault(22, r + "r[0]<={#y,r};endmodule");
    B.dueFault(30, r + "r[0]<=1'b1#+r;endmodule");
    B.dueFault(30, r + "r[0]#<=r;endmodule");
  }

  private static void linksInOrder() {
    B.says("of a link NAME, exp, 25, 30, 31");
    B.dueFault(23, SUB + "s u(.#zz(yy));endmodule");
    B.dueFault(22, SUB + "s u(.o({1'b1,#yy}));endmodule");
    B.dueFault(30, SUB + "s u(.o(a#+b));endmodule");
    B.dueFault(25, SUB + "s u(.o(#a));endmodule");
    B.dueFault(25, SUB + "s u(.o(#{x,x}));endmodule");
    B.dueFault(30, SUB + "assign y=a;s u(#.o(y));endmodule");
    B.dueFault(31, SUB + "assign x={a,b};s u(.o(#x));endmodule");
    B.dueFault(30, SUB + "s u(#.i(a),.zz(b));endmodule");
  }

  private static void instancesInOrder() {
    B.says("of an instance its module, its own NAME, its links");
    B.dueFault(22, SUB + "#zz a(.zz(yy));endmodule");
    B.dueFault(21, SUB + "s #a(.zz(yy));endmodule");
    B.dueFault(23, SUB + "s u(.#zz(yy));endmodule");
    B.dueFault(24, SUB + "s #u();endmodule");
    // Its own NAME is declared before its links are met.
    B.dueFault(22, SUB + "s u(.i(#u));endmodule");
  }

  private static void firstMet() {
    B.says("The text is gone through from the left; these are faults, the first one that is met counts.");
    String[] one = {"reg#[64:0]r;", "reg r=#2'd1;", "assert(#z);", "reg #a;", "assign #a=a;", "assert(a#+b);", "#q u();"};
    int[] codes = {30, 30, 22, 21, 22, 30, 22};
    for (int i = 0; i < one.length; i++) {
      for (String other : one) {
        B.dueFault(codes[i], "module m(input a,input[1:0]b);" + one[i] + other.replace("#", "").replace("]r", "]t").replace(" r=", " t=") + "endmodule");
      }
    }
    B.dueFault(20, "module m();endmodule module #m(input a,input a);endmodule");
    B.dueFault(21, "module m(input a,input #a);endmodule module m();endmodule");
    // Those of the circuit come behind all of these.
    B.dueFault(22, "module m(input[6:0]a);reg[12:0]r;assert(#z);endmodule");
    B.dueFault(33, "module m();wire w;assign w=w;wire #v;endmodule");
  }
}
