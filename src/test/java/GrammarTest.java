/** Part 2 of the document: faults 2 and 3. */
public final class GrammarTest {
  public static void main(String[] args) {
    Bench b = new Bench("GrammarTest");
    modules(b);
    items(b);
    statements(b);
    exps(b);
    everyCut(b);
    opens(b);
    b.end();
  }

  private static void modules(Bench b) {
    b.dueFault(2, "");
    b.dueFault(2, "   ");
    b.dueFault(2, "/**/ // x");
    b.dueFault(2, "#wire w;");
    b.dueFault(2, "module #module();endmodule");
    b.dueFault(2, "module m#;endmodule");
    b.dueFault(2, "module m(#a);endmodule");
    b.dueFault(2, "module m(#wire a);endmodule");
    b.dueFault(2, "module m(input a,#);endmodule");
    b.dueFault(2, "module m(#,input a);endmodule");
    b.dueFault(2, "module m(input a #input b);endmodule");
    b.dueFault(2, "module m(input #reg a);endmodule");
    b.dueFault(2, "module m(input a#=1'b1);endmodule");
    b.dueFault(2, "module m(output a#=1'b1);endmodule");
    b.dueFault(2, "module m(output reg a=#1);endmodule");
    b.dueFault(2, "module m(output reg a=#b);endmodule");
    b.dueFault(2, "module m(output[3:0]#reg a);endmodule");
    b.dueFault(2, "module m(input[#]a);endmodule");
    b.dueFault(2, "module m(input[3#]a);endmodule");
    b.dueFault(2, "module m(input[3:#]a);endmodule");
    b.dueFault(2, "module m(input[#3'd1:0]a);endmodule");
    b.dueFault(2, "module m(input[3:0#:0]a);endmodule");
    b.dueFault(2, "module m(input a#[3:0]);endmodule");
    b.dueFault(2, "module m()#endmodule");
    b.dueFault(2, "module m();endmodule#;");
    b.dueFault(2, "module m();endmodule #endmodule");
    b.dueFault(2, "module m();endmodule #m");
    b.dueFault(2, "module m();#module n();endmodule endmodule");
    b.dueFault(2, "module m();endmodule module");
    CircuitCycles x = b.circuit("module m();endmodule module n();endmodule module o();endmodule");
    b.due("modules", x.count(0), 3);
    b.circuit("module m(input a,output b,output reg c,output reg[1:0]d=2'd1);assign b=a;endmodule");
  }

  private static void items(Bench b) {
    String[] bad = {"wire #;", "wire w#=1'b1;", "wire w#,v;", "reg r=#1;", "reg r=1'b1#+1'b1;", "reg r #s;", "assign #=1'b1;",
        "assign w#[0]=1'b1;", "assign w#<=1'b1;", "assign w=#;", "assign w=w#)", "assign #{w}=1'b1;",
        "always #(posedge clock);", "always@#posedge clock;", "always@(#clock)", "always@(posedge #clk)",
        "always@(posedge clock#,", "always@(posedge clock)#;", "always@(posedge clock)#wire w;",
        "always@(posedge clock)#endmodule", "assert #1'b1;", "assert(#);", "assert(w#;", "assert(w)#assert(w);", "#;",
        "#begin end", "#if(w)", "#input a;", "#output a;", "m#(a);", "m #;", "m u#;", "m u(#a);", "m u(.#(a));", "m u(.a #a);",
        "m u(.a(#));", "m u(.a(b)#.b(c));", "m u(.a(b),#);", "m u(#,.a(b));", "m u()#wire w;", "m u(.a(b)#;", "#end",
        "initial #;", "#3'd1", "#(w)"};
    for (String s : bad) b.dueFault(2, "module m();" + s + " endmodule");
  }

  private static void statements(Bench b) {
    String[] bad = {"begin #endmodule", "begin r<=r;#)", "if #r", "if(#)", "if(r)#else r<=r;", "if(r)r<=r;else #end",
        "if(r)r<=r;else r<=r;#else r<=r;", "case #r", "case(r)#begin end endcase", "case(r)1'b1 #begin end endcase",
        "case(r)#1:r<=r;endcase", "case(r)#r:r<=r;endcase", "case(r)1'b1,#:r<=r;endcase", "case(r)1'b1:#endcase",
        "case(r)1'b1 #1'b0:r<=r;endcase", "case(r)default #r<=r;endcase", "case(r)default:r<=r;#1'b1:r<=r;endcase",
        "case(r)default:r<=r;#default:r<=r;endcase", "case(r)default:#endcase", "case(r)1'b1:r<=r;#end", "r#=r;", "r#;",
        "r[#]<=r;", "r[#r]<=r;", "r[#1'b1]<=r;", "r[1:#]<=r;", "r[1#,1]<=r;", "r[0]#[0]<=r;", "r<=#;", "r<=r#)", "r<=r #end",
        "#{r}<=r;", "#assign r=r;", "#1'b1<=r;", "begin end#;"};
    for (String s : bad) b.dueFault(2, "module m();reg r;always@(posedge clock)" + s);
    b.circuit("module m();reg r;always@(posedge clock)begin end always@(posedge clock)begin begin end end"
        + " always@(posedge clock)case(r)endcase always@(posedge clock)if(r)if(r)r<=r;else r<=r;else r<=r; endmodule");
  }

  private static void exps(Bench b) {
    String[] bad = {"#3", "w #w", "#*w", "#+w", "w+#*w", "w#~w", "w#!w", "w#:w", "w?w:w#:w", "(#)", "(w#:w)", "{#}", "{w,#}",
        "{#,w}", "{3#}", "{3 #w}", "{3{#}}", "{3{w#,w}}", "{3{w}#,w}", "{3'd1#{w}}", "w[#]", "w[3#+w]", "w[3:#w]", "w[3:#]",
        "w[3:2#:1]", "w[w#:0]", "w[w#,w]", "(w)#[0]", "1'b1#[0]", "w[0]#[0]", "w[w]#[w]", "{w}#[0]", "w#.w", "w#=w", "w#@w",
        "w+#3", "w?#3:w", "#if", "w==#==w", "- -#)", "w#(w)", "w#{w}"};
    for (String s : bad) b.dueFault(2, "module m();wire w;assert((" + s + " ");
    String[] cut = {"", "w", "w+", "w?", "w?w", "w?w:", "w?w:w", "(", "(w", "{", "{w", "{w,", "{3", "{3{", "{3{w", "{3{w}", "w[",
        "w[3", "w[3:", "w[3:2", "w[w", "~", "w[0]"};
    for (String s : cut) b.dueFault(2, "module m();wire w;assert((" + s + " ");
    b.circuit("module m();wire[3:0]w;assign w=4'd1;assert(~!-&|^w?w[0]?w[3:2]:{w[w],w[w[0]]}:{2{(w[1])}});endmodule");
  }

  /** Wherever a text without a fault is cut, its fault is 2 at its end. */
  private static void everyCut(Bench b) {
    String text = "module m ( input a , output reg [ 1 : 0 ] b = 2'd1 , output c ) ; wire d ; reg e = 1'b0 ; assign c = d ? a :"
        + " b [ 0 ] ; always @ ( posedge clock ) begin if ( a ) b [ 0 ] <= c ; else case ( b ) 2'd0 , 2'd1 : b <= { a , a } ;"
        + " default : b [ 1 : 0 ] <= { 2 { a } } ; endcase end assert ( ! a && b [ a ] ) ; assign d = ( a ) ; endmodule module n"
        + " ( ) ; wire x ; wire [ 1 : 0 ] y ; m u ( . a ( 1'b1 ) , . b ( y ) , . c ( x ) ) ; endmodule";
    b.circuit(text);
    int last = text.lastIndexOf("endmodule") + "endmodule".length();
    int whole = text.indexOf("endmodule") + "endmodule".length();
    for (int i = 0; i < last; i++) {
      if (text.charAt(i) != ' ' || i == whole) continue;
      b.dueFault(2, text.substring(0, i));
      if (text.charAt(i + 1) != '@') b.dueFault(2, text.substring(0, i) + " #@");
    }
  }

  private static String nested(String open, int times, String inner, String shut) {
    return open.repeat(times) + inner + shut.repeat(times);
  }

  private static void opens(Bench b) {
    String head = "module m();reg[1:0]r;always@(posedge clock)";
    b.circuit("module m();assert(" + nested("(", 59, "1'b1", ")") + ");endmodule");
    b.dueFault(3, "module m();assert(" + "(".repeat(59) + "#(1'b1");
    b.dueFault(3, "module m();assert(" + "(".repeat(59) + "#{1'b1");
    b.dueFault(3, "module m();assert(" + "(".repeat(58) + "{1#{1'b1");
    b.dueFault(3, "module m();wire w;assert(" + "(".repeat(59) + "w#[0]");
    b.dueFault(3, "module m();wire w;assert(" + "(".repeat(59) + "w#?w:w");
    b.dueFault(2, "module m();wire w;assert(" + "(".repeat(59) + "1'b1#[0]");
    b.circuit("module m();assert(" + nested("{", 59, "1'b1", "}") + ");endmodule");
    b.circuit("module m();assert(" + nested("{1{", 29, "1'b1", "}}") + ");endmodule");
    b.circuit("module m();assert({" + nested("{1{", 29, "1'b1", "}}") + "});endmodule");
    b.dueFault(3, "module m();assert({" + "{1{".repeat(29) + "#{1{1'b1");
    b.circuit("module m();assert(" + "1'b1?1'b1:".repeat(59) + "1'b1);endmodule");
    b.dueFault(3, "module m();assert(" + "1'b1?1'b1:".repeat(59) + "1'b1#?1'b1:1'b1);endmodule");
    b.dueFault(3, "module m();assert(" + "1'b1?".repeat(59) + "1'b1#?1'b1");
    b.circuit("module m();assert(" + "1'b1?".repeat(59) + "1'b1" + ":1'b1".repeat(59) + ");endmodule");
    b.circuit("module m();assert(" + "(1'b1?1'b1:1'b1)|".repeat(90) + "1'b1);endmodule");
    b.circuit("module m();assert({" + "1'b1?1'b1:1'b1,".repeat(60) + "1'b1});endmodule");
    b.circuit("module m();wire w;assign w=" + "1'b1?1'b1:".repeat(60) + "1'b1;endmodule");
    b.dueFault(3, "module m();wire w;assign w=" + "1'b1?1'b1:".repeat(60) + "1'b1#?1'b1:1'b1;endmodule");
    b.circuit("module m();wire[1:0]w;assign w=2'd1;assert(" + nested("w[", 59, "w", "]") + ");endmodule");
    b.dueFault(3, "module m();wire[1:0]w;assign w=2'd1;assert(" + "w[".repeat(59) + "w#[w");
    b.circuit(head + nested("begin ", 60, "", "end ") + "endmodule");
    b.dueFault(3, head + "begin ".repeat(60) + "#begin end");
    b.circuit(head + nested("begin ", 59, "r[0]<=1'b1;", "end ") + "endmodule");
    b.dueFault(3, head + "begin ".repeat(60) + "r#[0]<=1'b1;");
    b.dueFault(3, head + "begin ".repeat(59) + "if#(r)");
    b.dueFault(3, head + "begin ".repeat(60) + "#if(r)");
    b.dueFault(3, head + "begin ".repeat(60) + "#case(r)");
    b.dueFault(3, head + "begin ".repeat(59) + "case#(r)");
    b.circuit(head + "if(r)r<=r;else ".repeat(59) + "r<=r;endmodule");
    b.dueFault(3, head + "if(r)r<=r;else ".repeat(59) + "if#(r)r<=r;endmodule");
    b.dueFault(3, head + "if(r)".repeat(59) + "if#(r)r<=r;");
    b.circuit(head + "begin " + "if(r)r<=r;else r<=r; ".repeat(70) + "end endmodule");
    b.circuit(head + "begin " + "if(r)r<=r; ".repeat(70) + "end endmodule");
    b.circuit(head + "begin " + "if(r)if(r)r<=r;else r<=r;else if(r)r<=r; ".repeat(30) + "end endmodule");
    b.circuit(head + "begin " + "begin end case(r)endcase ".repeat(100) + "end endmodule");
    b.circuit(head + nested("case(r)2'd0:", 59, "r<=r;", "endcase ") + "endmodule");
    b.circuit(head + nested("case(r)default:", 59, "r<=r;", "endcase ") + "endmodule");
    b.dueFault(3, head + "case(r)default:".repeat(59) + "case#(r)");
    // Operators before a primary are not counted, and there may be very many of them.
    b.circuit("module m();assert(" + "~".repeat(1400) + "1'b1);endmodule");
    CircuitCycles x = new CircuitCycles();
    b.due("read", Bench.read(x, "module m();assert(" + "~".repeat(9000) + "1'b1);endmodule"), 7);
    b.due("fault", x.fault(), 44);
    b.due("read", Bench.read(x, "module m();assert(" + "-".repeat(65000)), 65018);
    b.due("fault", x.fault(), 2);
    b.due("read", Bench.read(x, "(".repeat(65520)), 0);
    b.due("read", Bench.read(x, "module m();assert(" + "(".repeat(60000)), 77);
    b.due("fault", x.fault(), 3);
  }
}
