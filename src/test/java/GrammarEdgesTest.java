/** Part 2 of the document, GRAMMAR: each sentence that names an edge, with the answers on both of its sides. */
public final class GrammarEdgesTest {
  private static final Bench B = new Bench("GrammarEdgesTest");
  private static final int FULL = 65536;
  private static final String HEAD = "module m(input a,input b);reg[1:0]r;";
  private static final String ALWAYS = HEAD + "always@(posedge clock)";

  public static void main(String[] args) {
    modules();
    ports();
    items();
    declarations();
    assignsAndAsserts();
    primaries();
    links();
    statements();
    cases();
    elses();
    parts();
    condition();
    ranks();
    signsBefore();
    indices();
    braces();
    misfits();
    missing();
    tapesEnd();
    sixtyOpen();
    openTokens();
    shutTokens();
    openQuestions();
    openIfs();
    openEverywhere();
    firstOfThree();
    atOnePlace();
    othersLater();
    B.end();
  }

  private static String asserted(String exp) {
    return HEAD + "assert(" + exp + ");endmodule";
  }

  private static void modules() {
    B.says("design = module { module }.");
    B.dueFault(2, "");
    B.dueFault(2, " ");
    B.dueFault(2, "/**/");
    B.dueFault(2, "//");
    B.due("modules", B.circuit("module m();endmodule").count(0), 1);
    B.due("modules", B.circuit("module m();endmodule module n();endmodule").count(0), 2);
    StringBuilder many = new StringBuilder();
    int count = 0;
    while (many.length() + 40 < FULL) many.append("module ").append(Bench.word(count++)).append("();endmodule ");
    B.due("modules of a full tape", B.circuit(many.toString()).count(0), count);
    B.dueFault(2, "module m();endmodule #;");
    B.dueFault(2, "module m();endmodule module");
  }

  private static void ports() {
    B.says("module = module NAME ( [ port { , port } ] ) ; { item } endmodule.");
    B.due("signals", B.circuit("module m();endmodule").count(2), 0);
    B.due("signals", B.circuit("module m(input a);endmodule").count(2), 1);
    B.due("signals", B.circuit("module m(input a,input b);endmodule").count(2), 2);
    B.dueFault(2, "module m#;endmodule");
    B.dueFault(2, "module m(#,);endmodule");
    B.dueFault(2, "module m(input a,#);endmodule");
    B.dueFault(2, "module m(input a#;endmodule");
    B.dueFault(2, "module m(input a,#,input b);endmodule");
    B.dueFault(2, "module m()#endmodule");
    B.dueFault(2, "module #();endmodule");
  }

  private static void items() {
    B.says("{ item } endmodule");
    B.circuit("module m();endmodule");
    B.circuit("module m();reg a;endmodule");
    B.circuit("module m();reg a;reg b;endmodule");
    B.dueFault(2, "module m();#;endmodule");
    B.dueFault(2, "module m();");
    B.dueFault(2, "module m();reg a;");
    B.dueFault(2, "module m();#module n();endmodule");
  }

  private static void declarations() {
    B.says("port = input [ range ] NAME | output [ range ] NAME | output reg [ range ] NAME [ = SIZED ].");
    B.circuit("module m(input a,input[0:0]b,output reg c,output reg[1:0]d,output reg e=1'b1,output reg[1:0]f=2'd1);endmodule");
    B.dueFault(2, "module m(input a#=1'b1);endmodule");
    B.dueFault(2, "module m(output a#=1'b1);endmodule");
    B.dueFault(2, "module m(output reg a=#1);endmodule");
    B.dueFault(2, "module m(output reg a=#);endmodule");
    B.dueFault(2, "module m(input[0:0]#[0:0]a);endmodule");
    B.says("range = [ PLAIN : PLAIN ], with square brackets.");
    B.dueFault(2, "module m(input[#]a);endmodule");
    B.dueFault(2, "module m(input[0#]a);endmodule");
    B.dueFault(2, "module m(input[0:#]a);endmodule");
    B.dueFault(2, "module m(input[0:#1'b0]a);endmodule");
    B.dueFault(2, "module m(input[0:0#:0]a);endmodule");
    B.says("item = wire [ range ] NAME ; | reg [ range ] NAME [ = SIZED ] ;");
    B.circuit("module m();reg a;reg[1:0]b;reg c=1'b1;reg[1:0]d=2'd1;wire w;wire[1:0]x;assign w=a;assign x=b;endmodule");
    B.dueFault(2, "module m();wire w#=1'b1;endmodule");
    B.dueFault(2, "module m();wire #;endmodule");
    B.dueFault(2, "module m();reg a#,b;endmodule");
    B.dueFault(2, "module m();reg a=1'b1#,b;endmodule");
  }

  private static void assignsAndAsserts() {
    B.says("| assign NAME = exp ; |");
    B.circuit("module m(output o);assign o=1'b1;endmodule");
    B.dueFault(2, "module m(output o);assign #=1'b1;endmodule");
    B.dueFault(2, "module m(output o);assign o=#;endmodule");
    B.dueFault(2, "module m(output o);assign o#;endmodule");
    B.dueFault(2, "module m(output o);assign o#[0]=1'b1;endmodule");
    B.dueFault(2, "module m(output o);assign o=1'b1#,o=1'b1;endmodule");
    B.dueFault(2, "module m(output o);assign o=1'b1 #endmodule");
    B.says("| assert ( exp ) ;");
    B.circuit("module m();assert(1'b1);endmodule");
    B.dueFault(2, "module m();assert#;endmodule");
    B.dueFault(2, "module m();assert(#);endmodule");
    B.dueFault(2, "module m();assert(1'b1#,1'b1);endmodule");
    B.dueFault(2, "module m();assert(1'b1)#endmodule");
  }

  private static void primaries() {
    B.says("primary = SIZED | NAME | NAME part |");
    for (String exp : new String[] {"1'b1", "a", "r[0]", "r[1:0]"}) B.circuit(asserted(exp));
    for (String exp : new String[] {"#", "#1", "#65535", "#)", "#reg", "#@", "a #a", "1'b1 #a", "r[0] #a", "r[0]#[0]", "a#.a"}) B.dueFault(2, asserted(exp));
    B.says("| ( exp ) |");
    for (String exp : new String[] {"(a)", "((a))", "(a?a:a)"}) B.circuit(asserted(exp));
    for (String exp : new String[] {"(#)", "(a#,a)", "(a #a)", "(a)#(a)", "(a)#[0]"}) B.dueFault(2, asserted(exp));
    B.dueFault(2, HEAD + "assert((a)#;endmodule");
  }

  private static void links() {
    B.says("NAME NAME ( [ link { , link } ] ) ;");
    String sub = "module e();endmodule module o(input i);endmodule module t(input i,input j);endmodule module m(input a);";
    B.circuit(sub + "e u();endmodule");
    B.circuit(sub + "o u(.i(a));endmodule");
    B.circuit(sub + "t u(.i(a),.j(a));endmodule");
    B.dueFault(2, sub + "e u(#,);endmodule");
    B.dueFault(2, sub + "o u(.i(a),#);endmodule");
    B.dueFault(2, sub + "t u(.i(a)#.j(a));endmodule");
    B.dueFault(2, sub + "e u#;endmodule");
    B.dueFault(2, sub + "e #();endmodule");
    B.says("link = . NAME ( exp ).");
    B.dueFault(2, sub + "o u(.i(#));endmodule");
    B.dueFault(2, sub + "o u(.#(a));endmodule");
    B.dueFault(2, sub + "o u(#i(a));endmodule");
    B.dueFault(2, sub + "o u(.i#);endmodule");
    B.dueFault(2, sub + "o u(.i(a#,a));endmodule");
  }

  private static void statements() {
    B.says("statement = begin { statement } end");
    B.circuit(ALWAYS + "begin end endmodule");
    B.circuit(ALWAYS + "begin r<=r;end endmodule");
    B.circuit(ALWAYS + "begin r<=r;r<=r;end endmodule");
    B.circuit(ALWAYS + "begin begin end begin end end endmodule");
    B.dueFault(2, ALWAYS + "begin #endmodule");
    B.dueFault(2, ALWAYS + "begin end#; endmodule");
    B.dueFault(2, ALWAYS + "begin #; end endmodule");
    B.says("always @ ( posedge clock ) statement");
    B.dueFault(2, ALWAYS + "#endmodule");
    B.dueFault(2, ALWAYS + "r<=r;r#<=r;endmodule");
    B.dueFault(2, ALWAYS + "#;endmodule");
  }

  private static void cases() {
    B.says("case ( exp ) { SIZED { , SIZED } : statement } [ default : statement ] endcase");
    B.circuit(ALWAYS + "case(r)endcase endmodule");
    B.circuit(ALWAYS + "case(r)2'd0:r<=r;endcase endmodule");
    B.circuit(ALWAYS + "case(r)2'd0,2'd1:r<=r;2'd2:r<=r;endcase endmodule");
    B.circuit(ALWAYS + "case(r)default:r<=r;endcase endmodule");
    B.circuit(ALWAYS + "case(r)2'd0:r<=r;default:r<=r;endcase endmodule");
    B.dueFault(2, ALWAYS + "case(r)#:r<=r;endcase endmodule");
    B.dueFault(2, ALWAYS + "case(r)2'd0,#:r<=r;endcase endmodule");
    B.dueFault(2, ALWAYS + "case(r)#,2'd0:r<=r;endcase endmodule");
    B.dueFault(2, ALWAYS + "case(r)2'd0:#endcase endmodule");
    B.dueFault(2, ALWAYS + "case(r)2'd0:r<=r;#r<=r;endcase endmodule");
    B.dueFault(2, ALWAYS + "case(r)default:#endcase endmodule");
    B.dueFault(2, ALWAYS + "case(r)default:r<=r;#default:r<=r;endcase endmodule");
    B.dueFault(2, ALWAYS + "case(r)default:r<=r;#2'd0:r<=r;endcase endmodule");
    B.dueFault(2, ALWAYS + "case(r)default#,2'd0:r<=r;endcase endmodule");
    B.dueFault(2, ALWAYS + "case(#)endcase endmodule");
  }

  /** What r is behind one step, of a circuit in which it is set. */
  private static void dueSet(String statement, int a, int bb, long want) {
    CircuitCycles x = B.circuit(ALWAYS + statement + "endmodule");
    x.set(0, a);
    x.set(1, bb);
    x.step();
    B.due("r behind " + statement + " with " + a + ", " + bb, x.value(2), want);
  }

  private static void elses() {
    B.says("if ( exp ) statement [ else statement ]");
    B.dueFault(2, ALWAYS + "if(a)#else r<=r;endmodule");
    B.dueFault(2, ALWAYS + "if(a)r<=r;else #endmodule");
    B.dueFault(2, ALWAYS + "if(a)r<=r;else r<=r;#else r<=r;endmodule");
    B.dueFault(2, ALWAYS + "if(a)begin end#;else r<=r;endmodule");
    B.says("An else belongs to the latest if without one.");
    String two = "if(a)if(b)r<=2'd1;else r<=2'd2;";
    dueSet(two, 0, 0, 0);
    dueSet(two, 0, 1, 0);
    dueSet(two, 1, 0, 2);
    dueSet(two, 1, 1, 1);
    String both = two + "else r<=2'd3;";
    dueSet(both, 0, 0, 3);
    dueSet(both, 1, 0, 2);
    String shut = "if(a)begin if(b)r<=2'd1;end else r<=2'd2;";
    dueSet(shut, 0, 0, 2);
    dueSet(shut, 1, 0, 0);
    dueSet("if(a)r<=2'd1;else if(b)r<=2'd2;else r<=2'd3;", 0, 0, 3);
    dueSet("if(a)case(b)1'b1:if(b)r<=2'd1;endcase else r<=2'd2;", 0, 1, 2);
  }

  private static void parts() {
    B.says("NAME [ part ] <= exp ;");
    B.circuit(ALWAYS + "r<=r;endmodule");
    B.circuit(ALWAYS + "r[0]<=a;endmodule");
    B.dueFault(2, ALWAYS + "r[0]#[0]<=a;endmodule");
    B.dueFault(2, ALWAYS + "r[#a]<=a;endmodule");
    B.dueFault(2, ALWAYS + "r#=a;endmodule");
    B.says("part = [ PLAIN ] or [ PLAIN : PLAIN ], with square brackets.");
    B.circuit(ALWAYS + "begin r[1:0]<=r[1:0];r[1:1]<=r[1];end endmodule");
    B.dueFault(2, ALWAYS + "r[#]<=a;endmodule");
    B.dueFault(2, ALWAYS + "r[1:#]<=a;endmodule");
    B.dueFault(2, ALWAYS + "r[#:0]<=a;endmodule");
    B.dueFault(2, ALWAYS + "r[1:0#:0]<=a;endmodule");
  }

  private static void dueExp(String exp, int a, int bb, long want) {
    CircuitCycles x = B.circuit(HEAD + "wire o;assign o=" + exp + ";endmodule");
    x.set(0, a);
    x.set(1, bb);
    B.due(exp + " with " + a + ", " + bb, x.value(3), want);
  }

  private static void condition() {
    B.says("exp = binary | binary ? exp : exp.");
    // a ? (b) : (a ? ..) and never (a ? b : a) ? ..
    dueExp("a?b:b?1'b0:1'b1", 1, 1, 1);
    dueExp("a?b?1'b0:1'b1:b", 1, 0, 1);
    dueExp("a?b:a|b", 1, 0, 0);
    dueExp("a|b?1'b0:1'b1", 1, 0, 0);
    B.dueFault(2, asserted("a?b#"));
    B.dueFault(2, asserted("a?#:b"));
    B.dueFault(2, asserted("a?b:#"));
    B.dueFault(2, asserted("a?b:a#:b"));
    B.dueFault(2, asserted("#?a:b"));
  }

  /** Of two neighbours the second binds more: without parentheses it is the same as with them round it. */
  private static void ranks() {
    B.says("Binary operators by ranks, those that bind least first, each rank from the left: ||; &&; |; ^; &; == !=; < <= > >=; << >>; + -; *.");
    String[][] rank = {{"||"}, {"&&"}, {"|"}, {"^"}, {"&"}, {"==", "!="}, {"<", "<=", ">", ">="}, {"<<", ">>"}, {"+", "-"}, {"*"}};
    for (int k = 0; k < rank.length; k++) {
      for (String p : rank[k]) {
        for (String q : rank[k]) dueSame("a" + p + "b" + q + "c", "(a" + p + "b)" + q + "c");
        if (k + 1 == rank.length) continue;
        for (String q : rank[k + 1]) {
          dueSame("a" + p + "b" + q + "c", "a" + p + "(b" + q + "c)");
          dueSame("a" + q + "b" + p + "c", "(a" + q + "b)" + p + "c");
        }
      }
    }
  }

  private static void dueSame(String plain, String shut) {
    CircuitCycles x = B.circuit("module m(input a,input b,input c,output o,output p);assign o=" + plain + ";assign p=" + shut + ";endmodule");
    for (int n = 0; n < 8; n++) {
      for (int s = 0; s < 3; s++) x.set(s, (n >> s) & 1);
      B.due(plain + " as " + shut + " with " + n, x.value(3), x.value(4));
    }
  }

  private static void signsBefore() {
    B.says("any number of ~ ! - & | ^ before a primary");
    dueExp("a", 1, 0, 1);
    for (String sign : "~ ! - & | ^".split(" ")) dueExp(sign + "a", 1, 0, sign.equals("~") || sign.equals("!") ? 0 : 1);
    dueExp("~!-&|^a", 1, 0, 1);
    dueExp("~".repeat(1499) + "a", 1, 0, 0);
    dueExp("~".repeat(1500) + "a", 1, 0, 1);
    B.dueFault(2, HEAD + "assert(" + "-".repeat(65000) + "#)");
    B.circuit(HEAD + "assert(" + "!".repeat(65000) + "a);endmodule module t();endmodule");
    B.dueFault(2, asserted("#+a"));
    B.dueFault(2, asserted("#*a"));
    B.dueFault(2, asserted("~#"));
    B.dueFault(2, asserted("a#~a"));
    B.dueFault(2, asserted("a#!a"));
  }

  private static void indices() {
    B.says("NAME [ exp ] with square brackets (exp beginning with no PLAIN)");
    B.circuit(asserted("r[a]"));
    B.circuit(asserted("r[1'b1]"));
    B.circuit(asserted("r[r[0]]"));
    B.circuit(asserted("r[(a)]"));
    B.dueFault(2, asserted("r[1#+a]"));
    B.dueFault(2, asserted("r[#]"));
    B.dueFault(2, asserted("r[(#1)]"));
    B.dueFault(2, asserted("r[-#1]"));
    B.dueFault(2, asserted("r[a#:0]"));
    B.dueFault(2, asserted("r[a]#[a]"));
    B.dueFault(2, asserted("(r)#[0]"));
    B.dueFault(2, asserted("2'd1#[0]"));
  }

  private static void braces() {
    B.says("{ exp { , exp } } | { PLAIN { exp } }, with braces, the inner ones around one exp.");
    B.circuit(asserted("{a}"));
    B.circuit(asserted("{a,b}"));
    B.circuit(asserted("{1{a}}"));
    B.circuit(asserted("{2{{a,b}}}"));
    B.dueFault(2, asserted("{#}"));
    B.dueFault(2, asserted("{a,#}"));
    B.dueFault(2, asserted("{#,a}"));
    B.dueFault(2, asserted("{2#}"));
    B.dueFault(2, asserted("{2{#}}"));
    B.dueFault(2, asserted("{2{a#,b}}"));
    B.dueFault(2, asserted("{2{a}#,b}"));
    B.dueFault(2, asserted("{2{a}#{b}}"));
    B.dueFault(2, asserted("{a,#2{b}}"));
    B.dueFault(2, asserted("{2'd2#{a}}"));
    B.dueFault(2, asserted("{(#2){a}}"));
  }

  private static void misfits() {
    B.says("FAULT 2: at the first token with which no design goes on");
    B.dueFault(2, "#;;;");
    B.dueFault(2, "module m(#;;;");
    B.dueFault(2, "module m();endmodule   #( ( (");
    // It does go on, though no meaning can be given to it.
    B.dueFault(22, "module m();#x y(.z(w));endmodule");
  }

  /** Each construct without one of its tokens: the next one can't stand there. */
  private static void missing() {
    String[] items = {"reg[1#0]t;", "reg[#:0]t;", "reg#1:0]t;", "reg[1:0#t;", "reg #;", "reg t#reg v;", "assign #=a;", "assign w#a;", "assign w=#;", "assign w=a#endmodule",
        "always#(posedge clock)r<=r;", "always@#posedge clock)r<=r;", "always@(#clock)r<=r;", "always@(posedge#)r<=r;", "always@(posedge clock#r<=r;",
        "assert#a);", "assert(#);", "assert(a#;", "assert(a)#endmodule", "m#(.a(a));", "m u#.a(a));", "m u(#a(a));", "m u(.#(a));", "m u(.a#a));", "m u(.a(#));", "m u(.a(a#;",
        "m u(.a(a)#;", "m u(.a(a))#endmodule", "m u(.a(a)#.b(a));", "m u(#,.b(a));"};
    for (String item : items) B.dueFault(2, HEAD + item.replace("#", " #") + " endmodule");
    String[] statements = {"if#a)r<=r;", "if(#)r<=r;", "if(a#r<=r;", "if(a)#endmodule", "case#a)endcase", "case(#)endcase", "case(a#endcase", "case(a)#:r<=r;endcase",
        "case(a)1'b1#r<=r;endcase", "case(a)1'b1:#endcase", "case(a)1'b1:r<=r;#endmodule", "case(a)default#r<=r;endcase", "case(a)1'b1 #1'b0:r<=r;endcase", "r#r;",
        "r<=#;", "r<=r#endmodule", "r#0]<=a;", "r[#]<=a;", "r[0#<=a;", "r[0:#]<=a;", "#<=r;", "begin r<=r;#endmodule", "#end endmodule"};
    for (String statement : statements) B.dueFault(2, ALWAYS + statement.replace("#", " #") + " endmodule");
    String[] exps = {"a#b", "a?#:b", "a?b#", "a?b#b", "(#)", "(a#;", "{a#b}", "{#}", "{a#;", "{2#a}}", "{2{#}}", "{2{a}#)", "{2{a#)", "r[#]", "r[a#)", "r[0#)", "r[0:#]", "r[0:0#)", "a+#", "~#"};
    for (String exp : exps) B.dueFault(2, HEAD + "assert(" + exp.replace("#", " #") + ");endmodule");
  }

  private static void tapesEnd() {
    B.says("or at the tape's end (at its length)");
    String[] cuts = {"", "module", "module m", "module m(", "module m(input a", "module m();", "module m();reg r;always@(posedge clock)if(r)r<=r",
        "module m();endmodule module", "module m();assert(1'b1", "module m();assert({1{1'b1}"};
    for (String cut : cuts) {
      B.dueFaultAt(2, cut.length(), cut);
      B.dueFaultAt(2, cut.length() + 1, cut + " ");
      B.dueFaultAt(2, cut.length() + 2, cut + "//");
      B.dueFaultAt(2, cut.length() + 6, cut + "/**/\n\r");
      B.dueFaultAt(2, FULL - 1, Bench.padded(cut, "", FULL - 1));
      B.dueFaultAt(2, FULL, Bench.padded(cut, "", FULL));
    }
  }

  private static void sixtyOpen() {
    B.says("FAULT 3: at a ( [ { ? begin if case with which more than 60 of these are open");
    // The ( of the assert is the first one.
    B.circuit(asserted("(".repeat(59) + "a" + ")".repeat(59)));
    B.dueFault(3, asserted("(".repeat(59) + "#(a" + ")".repeat(60)));
    B.circuit(asserted("{".repeat(59) + "a" + "}".repeat(59)));
    B.dueFault(3, asserted("{".repeat(59) + "#{a" + "}".repeat(60)));
    B.circuit(asserted("r[".repeat(59) + "a" + "]".repeat(59)));
    B.dueFault(3, asserted("r[".repeat(59) + "r#[a" + "]".repeat(60)));
    B.circuit(asserted("a?".repeat(59) + "a" + ":a".repeat(59)));
    B.dueFault(3, asserted("a?".repeat(59) + "a#?a" + ":a".repeat(60)));
    B.circuit(asserted("a?a:".repeat(59) + "a"));
    B.dueFault(3, asserted("a?a:".repeat(59) + "a#?a:a"));
    B.circuit(ALWAYS + "begin ".repeat(60) + "end ".repeat(60) + "endmodule");
    B.dueFault(3, ALWAYS + "begin ".repeat(60) + "#begin " + "end ".repeat(61) + "endmodule");
    // The ( of the innermost one is the last one.
    B.circuit(ALWAYS + "if(a)".repeat(59) + "r<=r;endmodule");
    B.dueFault(3, ALWAYS + "if(a)".repeat(59) + "if#(a)r<=r;endmodule");
    B.dueFault(3, ALWAYS + "begin ".repeat(60) + "#if(a)r<=r;" + "end ".repeat(60) + "endmodule");
    B.circuit(ALWAYS + "case(a)1'b1:".repeat(59) + "r<=r;" + "endcase ".repeat(59) + "endmodule");
    B.dueFault(3, ALWAYS + "case(a)1'b1:".repeat(59) + "case#(a)endcase " + "endcase ".repeat(59) + "endmodule");
    B.dueFault(3, ALWAYS + "begin ".repeat(60) + "#case(a)endcase " + "end ".repeat(60) + "endmodule");
  }

  /** What opens one place, and what closes it again, in an exp and in a statement. */
  private static final String[][] EXPS = {{"(", ")"}, {"{", "}"}, {"r[", "]"}, {"a?", ":a"}, {"a?a:", ""}, {"!{a,", "}"}, {"a&(", ")"}, {"~{", "}"}};
  private static final String[][] STATEMENTS = {{"begin ", "end "}, {"if(a)", ""}, {"if(a)r<=r;else ", ""}, {"case(a)1'b0:", "endcase "},
      {"case(a)default:", "endcase "}, {"case(a)1'b0:r<=r;default:", "endcase "}};

  private static void openTokens() {
    B.says("with which more than 60 of these are open");
    for (String[] outer : EXPS) {
      for (String[] inner : EXPS) {
        String fits = outer[0].repeat(58) + inner[0] + "a" + inner[1] + outer[1].repeat(58);
        String full = outer[0].repeat(59) + inner[0] + "a" + inner[1] + outer[1].repeat(59);
        dueOpens(HEAD + "assert(", fits, ");endmodule module t();endmodule", true, 0);
        int at = inner[0].replaceAll("[(\\[{?].*", "").length();
        dueOpens(HEAD + "assert(", full, ");endmodule module t();endmodule", false, 59 * outer[0].length() + at);
      }
    }
    for (String[] outer : STATEMENTS) {
      for (String[] inner : STATEMENTS) {
        // Within 58 others both the inner one and the ( of its exp fit; within 59 the ( does not.
        dueOpens(ALWAYS, outer[0].repeat(58) + inner[0] + "r<=r;" + inner[1] + outer[1].repeat(58), "endmodule module t();endmodule", true, 0);
        boolean fits = inner[0].equals("begin ");
        String full = outer[0].repeat(59) + inner[0] + "r<=r;" + inner[1] + outer[1].repeat(59);
        dueOpens(ALWAYS, full, "endmodule module t();endmodule", fits, 59 * outer[0].length() + inner[0].indexOf('('));
      }
    }
  }

  private static void dueOpens(String head, String text, String tail, boolean fits, int place) {
    if (fits) B.circuit(head + text + tail);
    else B.dueFaultAt(3, head.length() + place, head + text + tail);
  }

  private static void shutTokens() {
    B.says("( [ { to their closing ones");
    for (String[] pair : EXPS) {
      if (pair[1].startsWith(":") || pair[1].isEmpty()) continue;
      String one = pair[0] + "a" + pair[1];
      B.circuit(HEAD + "assert(" + "(".repeat(58) + (one + "&&").repeat(70) + one + ")".repeat(58) + ");endmodule module t();endmodule");
    }
    B.circuit(asserted("(".repeat(58) + "r[0]&&".repeat(70) + "r[1:0]" + ")".repeat(58)));
    B.circuit("module m(" + Bench.repeated("output reg[0:0]p%,", 0, 11) + "input[0:0]b);endmodule");
    B.circuit(ALWAYS + "begin ".repeat(59) + "r[0]<=a;".repeat(70) + "end ".repeat(59) + "endmodule");
    B.says("begin and case to end and endcase");
    B.circuit(ALWAYS + "begin ".repeat(59) + "begin end ".repeat(70) + "end ".repeat(59) + "endmodule");
    B.circuit(ALWAYS + "begin ".repeat(58) + "case(a)1'b0:r<=r;default:r<=r;endcase ".repeat(70) + "end ".repeat(58) + "endmodule module t();endmodule");
  }

  private static void openQuestions() {
    B.says("? to the end of its exp");
    // It is open in both of its exps, and behind the last one no more.
    B.dueFault(3, asserted("(".repeat(58) + "a?#(a):a" + ")".repeat(58)));
    B.dueFault(3, asserted("(".repeat(58) + "a?a:#(a)" + ")".repeat(58)));
    B.dueFault(3, asserted("(".repeat(58) + "a?a:a&#(a)" + ")".repeat(58)));
    B.dueFault(3, asserted("(".repeat(58) + "a?a:a#?a:a" + ")".repeat(58)));
    B.dueFault(3, asserted("(".repeat(58) + "a?a#?a:a:a" + ")".repeat(58)));
    B.circuit(asserted("(".repeat(57) + "(a?a:a)&(a)" + ")".repeat(57)));
    B.circuit(asserted("(".repeat(57) + "{a?a:a,a?a:a,(a)}" + ")".repeat(57)));
    B.circuit(asserted("(".repeat(57) + "a?r[0]:a" + ")".repeat(57)));
    B.dueFault(3, asserted("(".repeat(58) + "a?r#[0]:a" + ")".repeat(58)));
    B.circuit(HEAD + "wire w;assign w=" + "a?a:".repeat(60) + "a;endmodule");
    B.dueFault(3, HEAD + "wire w;assign w=" + "a?a:".repeat(60) + "a#?a:a;endmodule");
    // With each ; the next one begins anew.
    B.circuit(ALWAYS + "begin " + ("r[0]<=" + "a?a:".repeat(59) + "a;").repeat(3) + "end endmodule module t();endmodule");
  }

  private static void openIfs() {
    B.says("if to the end of its statement (its else with it)");
    B.dueFault(3, ALWAYS + "begin ".repeat(58) + "if(a)begin #begin end end " + "end ".repeat(58) + "endmodule");
    B.dueFault(3, ALWAYS + "begin ".repeat(58) + "if(a)r<=r;else begin #begin end end " + "end ".repeat(58) + "endmodule");
    B.dueFault(3, ALWAYS + "begin ".repeat(58) + "if(a)r<=r;else if#(a)r<=r;" + "end ".repeat(58) + "endmodule");
    B.circuit(ALWAYS + "begin ".repeat(57) + "if(a)r<=r;else if(a)r<=r;" + "end ".repeat(57) + "endmodule");
    B.circuit(ALWAYS + "begin ".repeat(58) + "if(a)r<=r;".repeat(70) + "end ".repeat(58) + "endmodule");
    B.circuit(ALWAYS + "begin ".repeat(58) + "if(a)r<=r;else r<=r;".repeat(70) + "end ".repeat(58) + "endmodule");
    B.circuit(ALWAYS + "begin ".repeat(57) + "if(a)if(a)r<=r;else r<=r;else r<=r;".repeat(40) + "end ".repeat(57) + "endmodule");
    B.circuit(ALWAYS + "begin ".repeat(57) + "if(a)if(a)r<=r;".repeat(40) + "end ".repeat(57) + "endmodule");
    // The ( of its exp is shut behind it; a part's [ has room in it.
    B.circuit(ALWAYS + "begin ".repeat(58) + "if(a)r[0]<=a;" + "end ".repeat(58) + "endmodule");
    B.dueFault(3, ALWAYS + "begin ".repeat(59) + "begin r#[0]<=a;end " + "end ".repeat(59) + "endmodule");
  }

  /** Each ( and [ that the grammar has counts: of a link's exp, of an if's, of a case's and of a store's part. */
  private static void openEverywhere() {
    B.says("( [ { ? begin if case with which more than 60 of these are open");
    String sub = "module s(input i);endmodule " + HEAD + "s u(.i(";
    B.circuit(sub + "(".repeat(58) + "a" + ")".repeat(58) + "));endmodule");
    B.dueFault(3, sub + "(".repeat(58) + "#(a" + ")".repeat(59) + "));endmodule");
    B.circuit(ALWAYS + "if(" + "(".repeat(58) + "a" + ")".repeat(58) + ")r<=r;endmodule");
    B.dueFault(3, ALWAYS + "if(" + "(".repeat(58) + "#(a" + ")".repeat(59) + ")r<=r;endmodule");
    B.circuit(ALWAYS + "case(" + "(".repeat(58) + "a" + ")".repeat(58) + ")endcase endmodule");
    B.dueFault(3, ALWAYS + "case(" + "(".repeat(58) + "#(a" + ")".repeat(59) + ")endcase endmodule");
    B.circuit(ALWAYS + "r<=" + "(".repeat(60) + "r" + ")".repeat(60) + ";endmodule");
    B.dueFault(3, ALWAYS + "r<=" + "(".repeat(60) + "#(r" + ")".repeat(61) + ";endmodule");
    B.circuit(ALWAYS + "r[0]<=" + "(".repeat(60) + "a" + ")".repeat(60) + ";endmodule");
    B.circuit(HEAD + "assert({" + "{1{".repeat(29) + "a" + "}}".repeat(29) + "});endmodule");
    B.dueFault(3, HEAD + "assert({(" + "{1{".repeat(28) + "{1#{a}}" + "}}".repeat(28) + ")});endmodule");
    B.dueFault(3, HEAD + "assert({" + "{1{".repeat(29) + "#{1{a}}" + "}}".repeat(29) + "});endmodule");
  }

  private static final String DEEP = "assert(" + "(".repeat(59);

  private static void firstOfThree() {
    B.says("That of 1, 2 and 3 which is first on the tape counts");
    B.dueFault(1, HEAD + "#$ ; " + DEEP + "(");
    B.dueFault(1, HEAD + "#$ " + DEEP + "( ;");
    B.dueFault(2, HEAD + "#; $ " + DEEP + "(");
    B.dueFault(2, HEAD + "#; " + DEEP + "( $");
    B.dueFault(3, HEAD + DEEP + "#( $ ;");
    B.dueFault(3, HEAD + DEEP + "#( ; $");
    B.dueFault(2, HEAD + "#; /* ");
    B.dueFault(3, HEAD + DEEP + "#( 1'b2");
  }

  private static void atOnePlace() {
    B.says("at one place 1 before 2, and 2 before 3");
    B.dueFault(1, HEAD + "assert(a #1'b2);endmodule");
    B.dueFault(2, HEAD + "assert(a #1'b1);endmodule");
    B.dueFault(1, HEAD + "assert(a #$);endmodule");
    B.dueFault(1, HEAD + "#/*");
    // With 60 open, what would be the next one but can't stand there.
    for (String token : "( { begin if case".split(" ")) B.dueFault(2, HEAD + DEEP + "a #" + token + " ");
    for (String token : "[ ? begin if case".split(" ")) B.dueFault(2, HEAD + DEEP + "#" + token + " ");
    B.dueFault(2, HEAD + DEEP + "a+#[");
    B.dueFault(2, HEAD + DEEP + "1'b1#[0]");
    String begins = "begin ".repeat(60);
    for (String token : "( [ { ?".split(" ")) B.dueFault(2, ALWAYS + begins + "#" + token + " ");
    for (String token : "( { ? begin if case".split(" ")) B.dueFault(2, ALWAYS + begins + "r #" + token + " ");
    for (String token : "begin if case".split(" ")) B.dueFault(3, ALWAYS + begins + "#" + token + " ");
  }

  private static void othersLater() {
    B.says("all others are looked for only when the whole tape has none of these");
    String[] texts = {"module m();endmodule module #m();endmodule ", "module m();reg a;reg #a;endmodule ", "module m();assert(#a);endmodule ",
        "module s(input i);endmodule module m();s u(.#j(1'b1));endmodule ", "module s(input i);endmodule module m();s #u();endmodule ",
        "module s(output o);assign o=1'b1;endmodule module m();s u(.o(#1'b1));endmodule ", "module m();reg#[64:0]r;endmodule ",
        "module m();wire w;assign w=1'b1;assign #w=1'b1;endmodule ", "module m();wire #w;endmodule ",
        "module m();reg r;always@(posedge clock)r<=r;always@(posedge clock)#r<=r;endmodule ", "module #m();reg[12:0]r;endmodule ",
        "module #m(input[6:0]a);endmodule ", "module m();wire #w;assign w=w;endmodule "};
    int[] codes = {20, 21, 22, 23, 24, 25, 30, 31, 33, 32, 42, 43, 45};
    for (int i = 0; i < texts.length; i++) {
      B.dueFault(codes[i], texts[i]);
      String text = texts[i].replace("#", "");
      B.dueFault(1, text + "#$");
      B.dueFault(1, text + "#/*");
      B.dueFault(2, text + "#;");
      B.dueFault(2, text + "module");
      B.dueFault(3, text + "module zz();" + DEEP + "#(");
    }
  }
}
