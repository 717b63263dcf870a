/** Part 3 of the document: faults 20 to 33, their places, and which of them is met first. */
public final class MeaningTest {
  private static final String SUB = "module s(input[1:0]i,output[2:0]o,output reg q);assign o={1'b0,i};endmodule ";

  public static void main(String[] args) {
    Bench b = new Bench("MeaningTest");
    names(b);
    uses(b);
    instances(b);
    ranges(b);
    operators(b);
    braces(b);
    assignments(b);
    driving(b);
    order(b);
    b.end();
  }

  private static void names(Bench b) {
    b.dueFault(20, "module m();endmodule module #m();endmodule");
    b.dueFault(20, "module m();endmodule module n();endmodule module #m();wire w;endmodule");
    b.dueFault(21, "module m(input a,input #a);endmodule");
    b.dueFault(21, "module m(input a,output #a);endmodule");
    b.dueFault(21, "module m(input a);wire #a;endmodule");
    b.dueFault(21, "module m();wire a;reg #a;endmodule");
    b.dueFault(21, "module m();reg a;reg #a=4'd1;endmodule");
    b.dueFault(21, SUB + "module m();reg a;s #a();endmodule");
    b.dueFault(21, "module e();endmodule module m();e a();e #a();endmodule");
    b.dueFault(21, "module e();endmodule module m();e a();wire #a;endmodule");
    b.circuit("module m(input m);endmodule module n(input m);m n(.m(m));endmodule");
    b.circuit("module m(input a);reg b;endmodule module n(input b);reg a;endmodule");
  }

  private static void uses(Bench b) {
    b.dueFault(22, "module m();assert(#a);endmodule");
    b.dueFault(22, "module m();assert(#a);wire a;endmodule");
    b.dueFault(22, "module m(input a);endmodule module n();assert(#a);endmodule");
    b.dueFault(22, "module m();assert(#m);endmodule");
    b.dueFault(22, "module e();endmodule module m();e a();assert(#a);endmodule");
    b.dueFault(22, "module m();wire w;assign w=#a[0];endmodule");
    b.dueFault(22, "module m();wire w;assign w=#a[b];endmodule");
    b.dueFault(22, "module m(input a);wire w;assign w=a[#b];endmodule");
    b.dueFault(22, "module m();assign #a=1'b1;wire a;endmodule");
    b.dueFault(22, "module m(input a);assign #a=1'b1;endmodule");
    b.dueFault(22, "module m();reg a;assign #a=1'b1;endmodule");
    b.dueFault(22, "module m(output reg a);assign #a=1'b1;endmodule");
    b.dueFault(22, "module e();endmodule module m();e a();assign #a=1'b1;endmodule");
    b.dueFault(22, "module m();wire a;always@(posedge clock)#a<=1'b1;endmodule");
    b.dueFault(22, "module m(output a);always@(posedge clock)#a<=1'b1;endmodule");
    b.dueFault(22, "module m(input a);always@(posedge clock)#a<=1'b1;endmodule");
    b.dueFault(22, "module m();always@(posedge clock)#a<=1'b1;reg a;endmodule");
    b.dueFault(22, "module m();always@(posedge clock)if(#a)begin end endmodule");
    b.dueFault(22, "module m();always@(posedge clock)case(#a)endcase endmodule");
    b.dueFault(22, "module m();#n u();endmodule module n();endmodule");
    b.dueFault(22, "module m();#m u();endmodule");
    b.dueFault(22, "module m();wire w;#w u();endmodule");
    b.circuit("module m(input a,output b,output reg c);wire d;reg e;assign b=a;assign d=b|c|e;assert(a|b|c|d|e);endmodule");
  }

  private static void instances(Bench b) {
    String m = SUB + "module m(input a);wire[1:0]w;wire[2:0]x;wire y;reg r;assign w={a,a};s u(";
    String end = ");endmodule";
    b.circuit(m + ".i(w),.o(x),.q(y)" + end);
    b.circuit(m + ".q(y),.i({r,a}),.o(x)" + end);
    b.dueFault(23, m + ".#z(w),.o(x),.q(y)" + end);
    b.dueFault(23, m + ".#w(w),.o(x),.q(y)" + end);
    b.dueFault(23, m + ".i(w),.o(x),.#i(w),.q(y)" + end);
    b.dueFault(23, m + ".i(w),.o(x),.q(y),.#o(nosuch)" + end);
    b.dueFault(23, "module n();wire w;assign w=1'b1;endmodule module m();n u(.#w(1'b1));endmodule");
    b.dueFault(24, SUB + "module m();s #u();endmodule");
    b.dueFault(24, SUB + "module m();s #u(.i(2'd1));endmodule");
    b.dueFault(24, SUB + "module m();wire[2:0]x;wire y;s #u(.o(x),.q(y));endmodule");
    b.dueFault(25, m + ".i(w),.o(#(x)),.q(y)" + end);
    b.dueFault(25, m + ".i(w),.o(#3'd1),.q(y)" + end);
    b.dueFault(25, m + ".i(w),.o(#x[2:0]),.q(y)" + end);
    b.dueFault(25, m + ".i(w),.o(#{x}),.q(y)" + end);
    b.dueFault(25, m + ".i(w),.o(#~x),.q(y)" + end);
    b.dueFault(25, m + ".i(w),.o(#x|x),.q(y)" + end);
    b.dueFault(25, m + ".i(w),.o(x),.q(#a)" + end);
    b.dueFault(25, m + ".i(w),.o(x),.q(#r)" + end);
    b.dueFault(25, m + ".i(w),.o(x),.q(#w[0])" + end);
    b.dueFault(25, m + ".i(w),.o(x),.q(#x[0])" + end);
    b.dueFault(22, m + ".i(w),.o(#z)" + end);
    b.dueFault(22, m + ".i(w),.o((x|#z))" + end);
    b.dueFault(22, m + ".i(w),.o(#u)" + end);
    b.dueFault(30, m + "#.i(a),.o(x)" + end);
    b.dueFault(30, m + ".i(w) , #.o(y)" + end);
    b.dueFault(30, m + ".i(w),#.o(w)" + end);
    b.dueFault(31, m + ".i(w),.o(x),.q(y)" + ");wire[2:0]z;wire t;s v(.i(w),.q(t),.o(#x)" + end);
    b.dueFault(31, m + ".i(w),.o(x),.q(y));assign #x=3'd1;endmodule");
    b.dueFault(31, "module n(output o);assign o=1'b1;endmodule module m();wire w;assign w=1'b1;n u(.o(#w));endmodule");
    b.dueFault(31, "module n(output o,output p);assign o=1'b1;assign p=o;endmodule module m();wire w;n u(.o(w),.p(#w));endmodule");
    // A number is no NAME, whatever numbers the class gives to words and numbers inside.
    for (int k = 0; k < 24; k++) {
      b.dueFault(25, "module n(output o);assign o=1'b1;endmodule module m();wire w;" + "assert(1'b1);".repeat(k) + "n u(.o(#1'b1));endmodule");
    }
    // An output port may be driven by an instance as a wire may.
    b.circuit(SUB + "module m(output[2:0]a,output b);s u(.i(2'd1),.o(a),.q(b));endmodule");
  }

  private static void ranges(Bench b) {
    b.circuit("module m();wire[63:0]w;assign w=64'd0;endmodule");
    b.dueFault(30, "module m();wire#[64:0]w;endmodule");
    b.dueFault(30, "module m();wire#[3:1]w;endmodule");
    b.dueFault(30, "module m();wire#[0:3]w;endmodule");
    b.dueFault(30, "module m();reg #[65535:65535]w;endmodule");
    b.dueFault(30, "module m(input #[1:1]w);endmodule");
    b.dueFault(30, "module m(output reg#[64:0]w=1'b1);endmodule");
    b.dueFault(30, "module m();reg r=#2'd1;endmodule");
    b.dueFault(30, "module m();reg[1:0]r=#1'd1;endmodule");
    b.dueFault(30, "module m(output reg[1:0]r=#3'd1);endmodule");
    b.dueFault(30, "module m();wire w;wire#[1:1]w;endmodule");
    b.dueFault(21, "module m();reg r;reg #r=2'd1;endmodule");
    String m = "module m(input[3:0]a);assert(";
    b.circuit(m + "{a[0],a[3],a[3:3],a[3:0],a[2:1]});endmodule");
    b.dueFault(30, m + "a#[4]);endmodule");
    b.dueFault(30, m + "a#[4:0]);endmodule");
    b.dueFault(30, m + "a#[0:1]);endmodule");
    b.dueFault(30, m + "a#[65535]);endmodule");
    b.dueFault(30, m + "a#[65535:65535]);endmodule");
    b.dueFault(30, m + "a#[3:65535]);endmodule");
    b.dueFault(22, m + "#z[0:1]);endmodule");
    b.circuit("module m(input a);assert({a[0],a[0:0],a[a]});endmodule");
  }

  private static final String THREE = "module m(input a,input[1:0]b,input[2:0]c);assert(";

  private static void operators(Bench b) {
    for (String op : "+ - * & | ^ == != < <= > >=".split(" ")) {
      b.circuit(THREE + "b" + op + "b);endmodule");
      b.dueFault(30, THREE + "b#" + op + "c);endmodule");
      b.dueFault(30, THREE + "c #" + op + " a);endmodule");
    }
    for (String op : "&& || << >>".split(" ")) b.circuit(THREE + "b" + op + "c);endmodule");
    b.circuit(THREE + "(b<<c)==b&&(a<<c)==a);endmodule");
    b.dueFault(30, THREE + "(b<<c)#==c);endmodule");
    for (String op : "~ -".split(" ")) {
      b.circuit(THREE + "(" + op + "c)==c);endmodule");
      b.dueFault(30, THREE + "(" + op + "c)#==a);endmodule");
    }
    for (String op : "! & | ^".split(" ")) {
      b.circuit(THREE + "(" + op + "c)==a);endmodule");
      b.dueFault(30, THREE + "(" + op + "c)#==c);endmodule");
    }
    for (String op : "== != < <= > >= && ||".split(" ")) {
      b.circuit(THREE + "(c" + op + "c)==a);endmodule");
      b.dueFault(30, THREE + "(c" + op + "c)#==c);endmodule");
    }
    b.circuit(THREE + "(c?b:b)==b);endmodule");
    b.dueFault(30, THREE + "a#?b:c);endmodule");
    b.dueFault(30, THREE + "a?b:a#?b:c);endmodule");
    b.dueFault(30, THREE + "a#?a?c:c:b);endmodule");
    b.dueFault(30, THREE + "a#?c:a?b:b);endmodule");
    b.dueFault(30, THREE + "c[b]#==b);endmodule");
    b.circuit(THREE + "a[c]==a);endmodule");
    // Ranks: what binds less comes later.
    b.dueFault(30, THREE + "b+b#*c);endmodule");
    b.dueFault(30, THREE + "c#+b*b);endmodule");
    b.dueFault(30, THREE + "c#&b==b);endmodule");
    b.circuit(THREE + "a&b==b);endmodule");
    b.circuit(THREE + "a^a&a|b==b);endmodule");
    b.circuit(THREE + "a==b<b);endmodule");
    b.dueFault(30, THREE + "b<b#<b);endmodule");
    b.circuit(THREE + "b<b<a);endmodule");
    b.dueFault(30, THREE + "b#<c<<b);endmodule");
    b.circuit(THREE + "b<b<<c);endmodule");
    b.circuit(THREE + "b<<c+c);endmodule");
    b.dueFault(30, THREE + "b#+c<<c);endmodule");
    b.circuit(THREE + "b==b&&c==c||a&&a);endmodule");
    b.dueFault(30, THREE + "b#==c&&c==b);endmodule");
    b.circuit(THREE + "!c&a);endmodule");
    b.circuit(THREE + "~c*-c+c==c);endmodule");
    b.circuit(THREE + "&c^|b&^b);endmodule");
  }

  private static void braces(Bench b) {
    String w = "module m(input a);wire[62:0]w;assign w={63{a}};assert(";
    b.circuit(w + "{w,a}=={64{a}});endmodule");
    b.dueFault(30, w + "#{w,a,a});endmodule");
    b.dueFault(30, w + "#{a,w,a});endmodule");
    b.dueFault(30, w + "{a,#{w,w}});endmodule");
    b.dueFault(30, w + "#{2{w}});endmodule");
    b.dueFault(30, w + "#{65{a}});endmodule");
    b.dueFault(30, w + "#{0{a}});endmodule");
    b.dueFault(30, w + "#{65535{w}});endmodule");
    b.dueFault(30, w + "#{0{w}});endmodule");
    b.dueFault(30, w + "{a,#{ 3 {w}}});endmodule");
    b.dueFault(30, w + "#{{63{a}},{2{a}}});endmodule");
    b.circuit(w + "{1{w}}==w);endmodule");
    b.circuit(w + "{{{{w}}}}==w);endmodule");
    b.dueFault(30, w + "{a,a}#=={3{a}});endmodule");
    // All operands are met before the braces.
    b.dueFault(22, w + "{w,w,#z});endmodule");
    b.dueFault(22, w + "{0{#z}});endmodule");
    b.dueFault(30, w + "{w,w,w#+a});endmodule");
    b.dueFault(30, w + "#{w,w});assert(z);endmodule");
  }

  private static void assignments(Bench b) {
    String m = "module m(input a);wire[1:0]w;reg[3:0]r;always@(posedge clock)";
    b.dueFault(30, "module m();wire[1:0]w;assign w #= 1'b1;endmodule");
    b.dueFault(30, m + "r#<=1'b1;endmodule");
    b.dueFault(30, m + "r[1:0]#<=r;endmodule");
    b.dueFault(30, m + "r[2] #<= 2'b1;endmodule");
    b.dueFault(30, m + "r#[4]<=1'b1;endmodule");
    b.dueFault(30, m + "r#[4:3]<=2'b1;endmodule");
    b.dueFault(30, m + "r#[1:2]<=2'b1;endmodule");
    b.dueFault(30, m + "r#<=a<=a;endmodule");
    b.dueFault(30, m + "r[0]<=r#<=a;endmodule");
    b.dueFault(30, m + "case(r)#3'd1:begin end endcase endmodule");
    b.dueFault(30, m + "case(r)4'd1,4'd2,#5'd1:begin end endcase endmodule");
    b.dueFault(30, m + "case(r)4'd1:r<=r;#1'd1:begin end endcase endmodule");
    b.dueFault(22, m + "case(r)4'd1:#x<=r;1'd1:begin end endcase endmodule");
    b.dueFault(22, m + "#x[9]<=y;endmodule");
    b.dueFault(30, m + "r#[9]<=y;endmodule");
    b.dueFault(22, m + "r[2:0]<=#y;endmodule");
    b.dueFault(22, "module m();wire[1:0]w;assign w=#y;endmodule");
  }

  private static void driving(Bench b) {
    String a = "always@(posedge clock)";
    b.dueFault(31, "module m();wire w;assign w=1'b1;assign #w=1'b1;endmodule");
    b.dueFault(31, "module m();wire w;assign w=1'b1;assign #w=z;endmodule");
    b.circuit("module m();reg r;" + a + "begin r<=1'b1;r<=1'b0;end endmodule");
    b.dueFault(32, "module m();reg r;" + a + "r<=1'b1;" + a + "#r<=1'b0;endmodule");
    b.dueFault(32, "module m();reg[1:0]r;" + a + "r[0]<=1'b1;" + a + "#r[1]<=1'b0;endmodule");
    b.dueFault(32, "module m();reg[1:0]r;reg s;" + a + "r[0]<=1'b1;" + a + "begin s<=s;#r[9]<=1'b0;end endmodule");
    b.dueFault(32, "module m();reg r;reg s;" + a + "r<=1'b1;" + a + "s<=1'b1;" + a + "#r<=1'b1;endmodule");
    b.circuit("module m();reg r;" + a + "r<=1'b1;endmodule module n();reg r;" + a + "r<=1'b1;endmodule");
    b.dueFault(33, "module m();wire #w;endmodule");
    b.dueFault(33, "module m(output #w);endmodule");
    b.dueFault(33, "module m(output[1:0]#w,output v);wire u;assign u=1'b1;endmodule");
    b.dueFault(33, "module m(output w);wire #v;wire u;assign w=v;endmodule");
    b.dueFault(33, "module m();wire #w;endmodule module n();wire w;assign w=z;endmodule");
    b.dueFault(22, "module m();wire w;assert(#z);endmodule");
    b.circuit("module m(output reg w);reg v;endmodule");
  }

  /** Everything from the left, and at each place in the order of the document. */
  private static void order(Bench b) {
    b.dueFault(30, "module m();wire#[64:0]w;wire w;endmodule");
    b.dueFault(21, "module m();wire w;wire #w;assert(z);endmodule");
    b.dueFault(22, SUB + "module m();wire w;#n w(.x(1'b1));endmodule");
    b.dueFault(21, SUB + "module m();wire w;s #w(.x(1'b1));endmodule");
    b.dueFault(23, SUB + "module m();s w(.#x(z));endmodule");
    b.dueFault(22, SUB + "module m();s w(.o({1'b1,#z}));endmodule");
    b.dueFault(30, SUB + "module m();s w(.o(1'b1#+2'd1));endmodule");
    b.dueFault(25, SUB + "module m();s w(.o(#1'b1));endmodule");
    b.dueFault(30, SUB + "module m();wire v;assign v=1'b1;s w(#.o(v));endmodule");
    b.dueFault(25, SUB + "module m();s w(.o(#2'd1),.x(y));endmodule");
    b.dueFault(23, SUB + "module m();s w(.i(2'd1),.#i(2'd1));endmodule");
    b.dueFault(24, SUB + "module m();s #w(.i(2'd1));assert(z);endmodule");
    b.dueFault(20, "module m();endmodule module #m(input a,input a);endmodule");
    b.dueFault(30, "module m(input a,input[1:0]b);assert((a#+b)+z);endmodule");
    b.dueFault(22, "module m(input a,input[1:0]b);assert(a+b*#z);endmodule");
    b.dueFault(22, "module m(input a,input[1:0]b);assert(a?b:a+#z);endmodule");
    b.dueFault(30, "module m(input a,input[1:0]b);assert(a?b:a#+b);endmodule");
    b.dueFault(30, "module m(input a,input[1:0]b);assert((a#?a:b)+z);endmodule");
    b.dueFault(31, "module m();wire w;assign w=1'b0;assign #w=2'd1+z;endmodule");
    b.dueFault(33, "module m();wire #w;endmodule module m();endmodule");
    b.dueFault(33, "module m();reg[63:0]r;wire #w;endmodule");
  }
}
