/** Part 1 of the document: tokens and fault 1, as read() and fault() tell them. */
public final class TextTest {
  public static void main(String[] args) {
    Bench b = new Bench("TextTest");
    bytes(b);
    comments(b);
    words(b);
    numbers(b);
    signs(b);
    whichComesFirst(b);
    b.end();
  }

  private static void bytes(Bench b) {
    b.circuit("\t\n\r module\tm\n(\r) ; endmodule");
    b.circuit("module m();endmodule");
    for (int c = 0; c < 256; c++) {
      if ("\t\n\r #".indexOf(c) >= 0) continue;
      int code = c > 127 || "+-*&|^~!<>?:;,.()[]{}=@".indexOf(c) < 0 && !(c >= '0' && c <= '9') && !Character.isLetter(c) && c != '_' ? 1 : 2;
      b.dueFault(code, "module m();endmodule #" + (char) c);
    }
    CircuitCycles x = new CircuitCycles();
    b.due("read of a sharp", Bench.read(x, "module m(#);endmodule"), 9);
    b.due("its fault", x.fault(), 1);
    b.dueFault(1, "module m();endmodule #\f");
    b.dueFault(1, "module m();endmodule #\u000b");
    b.dueFault(1, "module m();endmodule #\u00a0");
    b.dueFault(1, "#\u00ff");
  }

  private static void comments(Bench b) {
    b.circuit("//\nmodule//x\nm/**/(/***/)/*/*/;/*//*/endmodule//");
    b.circuit("module m();endmodule// the end");
    b.circuit("// \u00e9 \u0000 '\nmodule m();endmodule/* # ' \n */");
    b.dueFault(1, "module m();endmodule #/*");
    b.dueFault(1, "module m();endmodule #/*/");
    b.dueFault(1, "module m();endmodule #/* *");
    b.dueFault(1, "module m();endmodule #/* /* * /");
    b.dueFault(1, "module m();endmodule #/");
    b.dueFault(1, "module m();endmodule #/ /");
    b.dueFault(1, "module m();endmodule #/\n*/");
    b.dueFault(2, "module m();endmodule /* */ #*/");
    b.dueFault(2, "module m();//endmodule");
    b.dueFault(2, "module m();/*endmodule*/ ");
    b.dueFault(2, "#modu/**/le m();endmodule");
    b.dueFault(2, "// module m();endmodule\r");
    b.circuit("// x\r\nmodule m();endmodule");
  }

  private static void words(Bench b) {
    b.circuit("module _();wire a$;wire _$9;wire A;wire a;wire modul;wire modules;wire Module;wire END;"
        + "assign a$=1'b1;assign _$9=1'b1;assign A=a$;assign a=A;assign modul=a;assign modules=a;assign Module=a;assign END=a;endmodule");
    b.dueFault(2, "module #clock();endmodule");
    b.dueFault(2, "module m();wire #default;endmodule");
    b.dueFault(2, "module m #1();endmodule");
    b.dueFault(1, "module #$a();endmodule");
    b.dueFault(21, "module m();wire a$a;wire #a$a;endmodule");
    b.dueFault(22, "module m();wire a;assign #A=1'b0;endmodule");
    String[] keywords = ("module endmodule input output wire reg assign always posedge clock begin end if else case"
        + " endcase default assert").split(" ");
    for (String k : keywords) {
      b.dueFault(2, "module m(input #" + k + ");endmodule");
      b.circuit("module m(input " + k + "_,input x" + k + ",input " + k.toUpperCase() + ");endmodule");
    }
  }

  private static String literal(int width, String number) {
    return "module m(output[" + (width - 1) + ":0]o);assign o=" + number + ";endmodule";
  }

  private static void number(Bench b, int width, String number, long value) {
    b.dueValue(b.circuit(literal(width, number)), "o", value);
  }

  private static void numbers(Bench b) {
    number(b, 1, "1'b1", 1);
    number(b, 1, "00001'b0000000001", 1);
    number(b, 8, "8'o377", 255);
    number(b, 8, "8'd255", 255);
    number(b, 8, "8'hfF", 255);
    number(b, 24, "24'habCDeF", 0xabcdefL);
    number(b, 64, "64'd18446744073709551615", -1);
    number(b, 64, "64'd00000000000000000000000018446744073709551615", -1);
    number(b, 64, "64'd9223372036854775808", Long.MIN_VALUE);
    number(b, 64, "64'hFFFFFFFFFFFFFFFF", -1);
    number(b, 64, "64'h0FFFFFFFFFFFFFFFF", -1);
    number(b, 64, "64'o1777777777777777777777", -1);
    number(b, 64, "64'b" + "1".repeat(64), -1);
    number(b, 63, "63'd9223372036854775807", Long.MAX_VALUE);
    number(b, 10, "10'd1023", 1023);
    String[] bad = {"0'b0", "65'b0", "100'd1", "99999999999999999999'd1", "4294967297'd1", "1'b2", "1'b", "1'", "1'B1",
        "8'O7", "8'D7", "8'H7", "8'o8", "8'da", "8'hg", "1'd2", "8'd256", "8'o400", "8'h100", "8'b100000000",
        "64'd18446744073709551616", "64'd18446744073709551620", "64'd36893488147419103232",
        "64'd99999999999999999999999999999999", "64'h10000000000000000",
        "64'o2000000000000000000000", "64'b1" + "0".repeat(64), "63'd9223372036854775808", "8'd1_0", "8'd_1", "8'd1$",
        "1_0", "1$", "1a", "12x'd1", "1_'d1", "65536", "99999999999999999999", "4294967296", "8'x1", "8''d1", "1'b1_"};
    for (String n : bad) b.dueFault(1, literal(8, "#" + n));
    b.dueFault(1, literal(1, "1'b1#'"));
    b.dueFault(1, literal(1, "1'b1#'b1"));
    b.dueFault(2, literal(1, "1'b1 #1'b1"));
    b.dueFault(2, literal(8, "#8 'd1"));
    b.dueFault(1, "module m(input[#65536:0]a);endmodule");
    b.dueFault(30, "module m(input#[65535:0]a);endmodule");
    b.dueFault(30, "module m(input#[00000000065535:0]a);endmodule");
    b.circuit("module m(input[0005:000]a);endmodule");
    b.dueFault(1, "module m();endmodule #1'b2");
    b.dueFault(2, "module m();endmodule #1'b1");
  }

  private static void signs(Bench b) {
    b.dueFault(2, "module m();assert(1'b1==#=1'b1);endmodule");
    b.dueFault(2, "module m();assert(1'b1*#*1'b1);endmodule");
    b.dueFault(2, "module m();assert(1'b1>>#>1'b1);endmodule");
    b.dueFault(2, "module m();assert(1'b1<<#=1'b1);endmodule");
    b.dueFault(2, "module m();assert(1'b1<=#>1'b1);endmodule");
    b.dueFault(2, "module m();assert(1'b1!=#=1'b1);endmodule");
    b.dueFault(2, "module m();assert(1'b1 #= = 1'b1);endmodule");
    b.dueFault(2, "module m();assert(1'b1& #> 1'b1);endmodule");
    b.circuit("module m();assert(1'b1&&&1'b1);endmodule");
    b.circuit("module m();assert(1'b1|||1'b1);endmodule");
    b.circuit("module m();assert(1'b1&& & &1'b1);endmodule");
    b.dueFault(2, "module m();assert(1'b1&&#&&1'b1);endmodule");
    b.circuit("module m();assert(1'b1^^^^1'b1);endmodule");
    b.circuit("module m();assert(1'b1---1'b1);endmodule");
    b.circuit("module m();assert(1'b1>=!1'b1);endmodule");
    b.dueFault(1, "module m();assert(1'b1#/1'b1);endmodule");
    b.dueFault(1, "module m();assert(1'b1#%1'b1);endmodule");
  }

  /** Of 1, 2 and 3 the first on the tape counts, and at one place 1 before 2; all others come later. */
  private static void whichComesFirst(Bench b) {
    b.dueFault(2, "module m(#;$");
    b.dueFault(1, "module m(#$;;");
    b.dueFault(1, "module m();wire w;wire w;assert(#65536);endmodule");
    b.dueFault(2, "module m();wire w;wire w;assert(#65535);endmodule");
    b.dueFault(1, "module m();wire w;wire w;endmodule #/*");
    b.dueFault(2, "module m();wire w;wire w;");
    b.dueFault(3, "module m();wire w;wire w;assert(" + "(".repeat(59) + "#(x y z $");
    b.dueFault(2, "module m();assert(" + "(".repeat(59) + "x #y (");
    b.dueFault(1, "module m();assert(" + "(".repeat(59) + "#1'b2 (");
  }
}
