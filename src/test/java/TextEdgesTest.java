import java.math.BigInteger;

/** Part 1 of the document, TEXT: each sentence that names an edge, with the answers on both of its sides. */
public final class TextEdgesTest {
  private static final Bench B = new Bench("TextEdgesTest");
  private static final int FULL = 65536;
  private static final String SIGNS = "+-*&|^~!<>?:;,.()[]{}=@";
  private static final String[] KEYWORDS = ("module endmodule input output wire reg assign always posedge clock begin end if else"
      + " case endcase default assert").split(" ");

  public static void main(String[] args) {
    emptyTape();
    fullTape();
    places();
    longestWords();
    longestSigns();
    blanks();
    lineComments();
    longComments();
    commentsBetween();
    firstOfWord();
    restOfWord();
    keywords();
    otherWords();
    numberGoesOn();
    oneQuote();
    plain();
    widths();
    bases();
    digits();
    values();
    wrappedValues();
    zeros();
    signs();
    faultPlaces();
    B.end();
  }

  private static boolean isBlank(int c) {
    return c == 9 || c == 10 || c == 13 || c == 32;
  }

  private static boolean isLetter(int c) {
    return c >= 'a' && c <= 'z' || c >= 'A' && c <= 'Z';
  }

  private static boolean isDigit(int c) {
    return c >= '0' && c <= '9';
  }

  private static boolean isOfWord(int c) {
    return isLetter(c) || isDigit(c) || c == '_' || c == '$';
  }

  /** The code of a byte that stands where no design goes on with it, and does not begin a comment. */
  private static int misfit(int c) {
    return SIGNS.indexOf(c) >= 0 ? 2 : 1;
  }

  private static String asserted(String exp) {
    return "module m(input a,input b);assert(" + exp + ");endmodule";
  }

  private static String assigned(int width, String exp) {
    return "module m(output[" + (width - 1) + ":0]o);assign o=" + exp + ";endmodule";
  }

  private static void emptyTape() {
    B.says("THE TAPE is a row of at most 65536 bytes, empty at first");
    CircuitCycles x = new CircuitCycles();
    x.end(0);
    B.dueThrow("end(1)", () -> x.end(1), IllegalArgumentException.class);
    B.due("read", x.read(), 0);
    B.due("fault", x.fault(), 2);
    CircuitCycles y = new CircuitCycles();
    B.due("the first feed", y.feed(0, 0, 0, 0, 0), 20);
  }

  private static void fullTape() {
    B.says("THE TAPE is a row of at most 65536 bytes");
    String text = Bench.padded("module m(input a);", "endmodule", FULL);
    B.circuit(text);
    B.dueFault(2, text.substring(0, FULL - 1));
    CircuitCycles x = new CircuitCycles();
    Bench.feed(x, Bench.bytes(text), 0);
    B.dueThrow("feed of a full tape", () -> x.feed(0, 0, 0, 0, 0), UnsupportedOperationException.class);
    x.end(FULL - 19);
    B.dueThrow("feed to 65537", () -> x.feed(0, 0, 0, 0, 0), UnsupportedOperationException.class);
    x.end(FULL - 20);
    B.due("feed to 65536", x.feed(0x20202020, 0x20202020, 0x2020656e, 0x646d6f64, 0x756c6520), FULL);
    B.due("read", x.read(), -1);
  }

  private static void places() {
    B.says("PLACES on it are counted from 0.");
    B.dueFaultAt(2, 0, ";");
    B.dueFaultAt(1, 0, "$");
    B.dueFaultAt(2, 1, " ;");
    B.dueFaultAt(2, FULL - 1, Bench.padded("module m();endmodule", ";", FULL));
    B.dueFaultAt(1, FULL - 1, Bench.padded("module m();endmodule", "$", FULL));
    B.dueFaultAt(2, FULL, Bench.padded("module m();", " ", FULL));
    CircuitCycles x = B.circuit("module m(input a);endmodule");
    B.due("place of a", x.signal(0, 2), 15);
  }

  private static void longestWords() {
    B.says("TOKENS, from the left, each as long as may be");
    B.dueFault(2, "#modulem();endmodule");
    B.dueFault(2, "module m();endmodulex");
    B.dueFault(2, "module m();wirew#;endmodule");
    B.dueFault(2, "module m(#inputa);endmodule");
    B.dueFault(1, assigned(1, "#1'b11"));
    B.dueFault(1, "module m(input[#0a:0]b);endmodule");
    B.dueFault(30, "module m(input#[10:01]a);endmodule");
    String name = "a".repeat(32000);
    CircuitCycles x = B.circuit("module m(input " + name + ",input " + name + "a);endmodule");
    B.due("a long name", Bench.find(x, name), 0);
    B.due("one byte longer", Bench.find(x, name + "a"), 1);
    B.due("one byte shorter", Bench.find(x, name.substring(1)), -1);
    B.due("another last byte", Bench.find(x, name + "b"), -1);
    B.dueFault(21, "module m(input " + "a".repeat(30000) + ",input #" + "a".repeat(30000) + ");endmodule");
  }

  private static void longestSigns() {
    B.says("SIGNS: && || == != <= >= << >> + - * & | ^ ~ ! < > ? : ; , . ( ) [ ] { } = @");
    for (String sign : "&& || == != <= >= << >>".split(" ")) {
      B.circuit(asserted("a" + sign + "b"));
      // In two halves it is another pair of tokens, of which the second one may be one before an operand.
      boolean goesOn = sign.equals("&&") || sign.equals("||");
      if (goesOn) B.circuit(asserted("a" + sign.charAt(0) + " " + sign.charAt(1) + "b"));
      else if (sign.equals("==")) B.dueFault(2, asserted("a #= =b"));
      else if (sign.equals("!=")) B.dueFault(2, asserted("a #! =b"));
      else B.dueFault(2, asserted("a" + sign.charAt(0) + " #" + sign.charAt(1) + "b"));
    }
    B.dueFault(2, asserted("a==#=b"));
    B.dueFault(2, asserted("a!=#=b"));
    B.dueFault(2, asserted("a<<#=b"));
    B.dueFault(2, asserted("a<<#<b"));
    B.dueFault(2, asserted("a>>#>b"));
    B.dueFault(2, asserted("a>=#=b"));
    B.dueFault(2, asserted("a<=#>b"));
    B.dueFault(2, asserted("a>#<b"));
    B.dueFault(2, asserted("a#=>b"));
    B.circuit(asserted("a&&&b"));
    B.circuit(asserted("a|||b"));
    B.dueFault(2, asserted("a&&#&&b"));
    B.circuit(asserted("a&& & &b"));
    B.circuit(asserted("a^~!-^b"));
    B.dueFault(2, asserted("a&|#+b"));
  }

  private static void blanks() {
    B.says("BLANKS (9, 10, 13, 32)");
    for (int c = 0; c < 256; c++) {
      String text = "module" + (char) c + "m();endmodule";
      if (isBlank(c)) B.circuit(text);
      else if (isOfWord(c)) B.dueFaultAt(2, 0, text);
      else B.dueFaultAt(misfit(c), 6, text);
    }
    B.circuit("\t\n\r module\t\tm\n\n(\r\r)  ;\r\n\t endmodule \t\r\n");
    B.dueFault(30, "module m(input[1:0]a);assert(a#& &a);endmodule");
    B.circuit("module m(input[1:0]a);assert(a&&a);endmodule");
    B.dueFault(2, "#mod ule m();endmodule");
    B.dueFault(1, asserted("#1' b1"));
  }

  private static void lineComments() {
    B.says("// to before the next byte 10, or the end");
    B.circuit("module m();//\nendmodule");
    B.circuit("module//\nm();endmodule");
    StringBuilder all = new StringBuilder();
    for (int c = 0; c < 256; c++) if (c != 10) all.append((char) c);
    B.circuit("module m();//" + all + "\nendmodule");
    B.dueFault(2, "module m();//\rendmodule");
    B.dueFault(2, "module m();//*/endmodule");
    B.dueFault(2, "module m();// /*\n#*/endmodule");
    B.circuit("module m();endmodule//");
    B.circuit("module m();endmodule//x");
    B.circuit("module m();endmodule//\n");
    B.circuit(Bench.padded("module m();endmodule", "//", FULL));
    B.circuit("module m();endmodule//" + "/".repeat(FULL - 22));
    B.dueFaultAt(1, FULL - 1, Bench.padded("module m();endmodule", "/", FULL));
    B.dueFault(2, "//");
    B.dueFault(1, "module m();endmodule#/");
    B.dueFault(1, "module m();#/ /\nendmodule");
    B.dueFault(1, "module m();#/\n/endmodule");
  }

  private static void longComments() {
    B.says("/* to behind the next * and / at once, both behind it");
    B.circuit("module m();/**/endmodule");
    B.circuit("module m();/***/endmodule");
    B.circuit("module m();/****/endmodule");
    B.circuit("module m();/*/*/endmodule");
    B.circuit("module m();/*//*/endmodule");
    B.circuit("module m();/* // */endmodule");
    StringBuilder all = new StringBuilder();
    for (int c = 0; c < 256; c++) all.append((char) c).append(c == '*' ? " " : "");
    B.circuit("module m();/*" + all + "*/endmodule");
    B.dueFault(1, "module m();#/*/endmodule");
    B.dueFault(1, "module m();#/* * /endmodule");
    B.dueFault(1, "module m();#/* *\n/endmodule");
    B.dueFault(1, "module m();endmodule#/*");
    B.dueFault(1, "module m();endmodule#/* *");
    B.dueFault(1, "module m();endmodule#/**");
    B.dueFault(1, "module m();endmodule#/*/");
    B.dueFault(1, "module m();#/ */endmodule");
    B.dueFault(2, "module m();/* /* */#*/endmodule");
    B.circuit(Bench.padded("module m();endmodule/*", "*/", FULL));
    B.dueFaultAt(1, 20, Bench.padded("module m();endmodule/*", "*", FULL));
    B.dueFaultAt(1, FULL - 2, Bench.padded("module m();endmodule", "/*", FULL));
    B.dueFaultAt(1, FULL - 3, Bench.padded("module m();endmodule", "/*/", FULL));
  }

  private static void commentsBetween() {
    B.says("stand anywhere between");
    String text = " module m ( input [ 1 : 0 ] a , output reg q = 1'b1 ) ; wire w ; assign w = a [ 0 ] && a != { 2 { q } } ;"
        + " always @ ( posedge clock ) if ( w ) q <= a [ w ] ; else case ( a ) 2'd1 : begin end default : q <= ! q ; endcase"
        + " assert ( w ? ~ a : a << 1'b1 ) ; endmodule ";
    for (String between : new String[] {" ", "\t", "\n", "\r", "/**/", "//\n", " /* */ /* */ ", "\n\n// x\n/*\n*/\r"}) {
      B.circuit(text.replace(" ", between));
    }
    B.dueFault(2, "#modu/**/le m();endmodule");
    B.dueFault(2, "#modu//\nle m();endmodule");
    B.dueFault(1, asserted("#1'/**/b1"));
    B.dueFault(2, asserted("a #=/**/=b"));
  }

  private static void firstOfWord() {
    B.says("A WORD: a letter or _");
    for (int c = 0; c < 256; c++) {
      String text = "module " + (char) c + "x();endmodule";
      if (isBlank(c) || isLetter(c) || c == '_') B.circuit(text);
      else B.dueFaultAt(isDigit(c) ? 1 : misfit(c), 7, text);
    }
    B.circuit("module _();endmodule");
    B.dueFault(1, "module #$();endmodule");
    B.dueFault(2, "module #0();endmodule");
  }

  private static void restOfWord() {
    B.says("then letters, digits, _ and $");
    for (int c = 0; c < 256; c++) {
      String text = "module m(input x" + (char) c + ");endmodule";
      if (isOfWord(c)) B.due("find x" + (char) c, Bench.find(B.circuit(text), "x" + (char) c), 0);
      else if (isBlank(c)) B.due("find x", Bench.find(B.circuit(text), "x"), 0);
      else if (c == ',') B.dueFaultAt(2, 17, text);
      else if (c == ')') B.dueFaultAt(2, 17, text);
      else B.dueFaultAt(misfit(c), 16, text);
    }
    B.circuit("module m(input a$,input a$$,input a0,input a_,input __,input _9$);endmodule");
  }

  private static void keywords() {
    B.says("KEYWORDS: module endmodule input output wire reg assign always posedge clock begin end if else case endcase default assert");
    for (String k : KEYWORDS) {
      B.dueFault(2, "module #" + k + "();endmodule");
      B.dueFault(2, "module m(input #" + k + ");endmodule");
    }
  }

  private static void otherWords() {
    B.says("another word is a NAME");
    for (String k : KEYWORDS) {
      String[] names = {k + "_", k + "0", k + "$", "_" + k, k + k, k.substring(0, k.length() - 1), k.substring(1), k.toUpperCase(),
          k.substring(0, 1).toUpperCase() + k.substring(1), k.substring(0, k.length() - 1) + k.substring(k.length() - 1).toUpperCase()};
      for (String name : names) B.due("find " + name, Bench.find(B.circuit("module m(input " + name + ");endmodule"), name), 0);
    }
  }

  private static void numberGoesOn() {
    B.says("A NUMBER begins with a digit, and goes on with letters, digits, _, $ and at most one '.");
    for (int c = 0; c < 256; c++) {
      String text = asserted("1'b1" + (char) c);
      if (isOfWord(c)) B.dueFaultAt(1, 33, text);
      else if (isBlank(c)) B.circuit(text);
      else if (c == ')') B.dueFaultAt(2, 38, text);
      else if ("+-*&|^<>?".indexOf(c) >= 0) B.dueFaultAt(2, 38, text);
      else B.dueFaultAt(misfit(c), 37, text);
    }
    for (int c = 0; c < 256; c++) {
      if (!isOfWord(c)) continue;
      String text = "module m(input[3" + (char) c + ":0]a);endmodule";
      boolean isWhole = c >= '0' && c <= '9';
      if (!isWhole) B.dueFaultAt(1, 15, text);
      else B.circuit("module t(input[" + (char) c + ":0]a);endmodule module m();endmodule");
    }
  }

  private static void oneQuote() {
    B.says("at most one '");
    B.dueFault(1, asserted("1'b1#'"));
    B.dueFault(1, asserted("1'b1#'b1"));
    B.dueFault(1, asserted("#1''b1"));
    B.dueFault(1, asserted("#1'"));
    B.dueFault(1, asserted("#1'1'b1"));
    B.dueFault(1, asserted("a#'b1"));
    B.dueFault(1, asserted("#'b1"));
  }

  private static void plain() {
    B.says("It is PLAIN: digits alone, with a value of at most 65535");
    for (String zeros : new String[] {"", "0", "000000000000000000000"}) {
      B.circuit("module m(input[" + zeros + "5:" + zeros + "0]a);endmodule");
      B.dueFault(30, "module m(input#[" + zeros + "65535:0]a);endmodule");
      B.dueFault(1, "module m(input[#" + zeros + "65536:0]a);endmodule");
      B.dueFault(1, "module m(input[0:#" + zeros + "65536]a);endmodule");
      B.dueFault(30, "module m(input#[0:" + zeros + "65535]a);endmodule");
      B.dueFault(30, asserted("#{" + zeros + "65535{a}}"));
      B.dueFault(1, asserted("{#" + zeros + "65536{a}}"));
      B.dueFault(30, asserted("a#[" + zeros + "65535]"));
      B.dueFault(1, asserted("a[#" + zeros + "65536]"));
    }
    // Each of these would be 0 or 1 if it wrapped around at 16, 32 or 64 bits, or within one step more.
    for (int bits : new int[] {16, 17, 31, 32, 33, 63, 64, 65, 128}) {
      BigInteger power = BigInteger.TWO.pow(bits);
      B.dueFault(1, "module m(input[#" + power + ":0]a);endmodule");
      B.dueFault(1, "module m(input[#" + power.add(BigInteger.ONE) + ":0]a);endmodule");
    }
    for (int n = 5; n < 60; n++) B.dueFault(1, "module m(input[#1" + "0".repeat(n) + ":0]a);endmodule");
    B.dueFault(1, "module m(input[#" + "9".repeat(60000) + ":0]a);endmodule");
  }

  private static void widths() {
    B.says("SIZED: digits (the WIDTH, 1 .. 64), '");
    for (String zeros : new String[] {"", "0", "00000000000000000000000"}) {
      B.dueFault(1, assigned(1, "#" + zeros + "0'b0"));
      B.circuit(assigned(1, zeros + "1'b0"));
      B.circuit(assigned(64, zeros + "64'b0"));
      B.dueFault(1, assigned(64, "#" + zeros + "65'b0"));
    }
    for (int w = 1; w <= 64; w++) B.circuit(assigned(w, w + "'d0"));
    for (int bits : new int[] {7, 8, 16, 31, 32, 33, 63, 64, 65}) {
      B.dueFault(1, assigned(1, "#" + BigInteger.TWO.pow(bits).add(BigInteger.ONE) + "'b0"));
    }
    B.dueFault(1, assigned(1, "#1_'b0"));
    B.dueFault(1, assigned(1, "#1a'b0"));
    B.dueFault(1, assigned(1, "#1$'b0"));
  }

  private static void bases() {
    B.says("one of b o d h (small ones)");
    for (int c = 0; c < 256; c++) {
      String text = assigned(8, "8'" + (char) c + "1");
      if (c == 'b' || c == 'o' || c == 'd' || c == 'h') B.dueValue(B.circuit(text), "o", 1);
      else B.dueFaultAt(1, text.indexOf("8'"), text);
    }
  }

  private static void digits() {
    B.says("digits of the base 2, 8, 10, 16 (a .. f small or great), at least one");
    int[] radix = {2, 8, 10, 16};
    for (int k = 0; k < 4; k++) {
      String number = "8'" + "bodh".charAt(k);
      B.dueFault(1, assigned(8, "#" + number));
      B.dueFault(1, assigned(8, "#" + number + " 1"));
      for (int c = 0; c < 256; c++) {
        int digit = c < 128 ? Character.digit(c, radix[k]) : -1;
        for (int width : new int[] {8, 64}) {
          String text = assigned(width, width + number.substring(1) + (char) c);
          if (digit >= 0) B.dueValue(B.circuit(text), "o", digit);
          else B.dueFaultAt(1, text.indexOf("=") + 1, text);
        }
      }
      // The same behind another digit.
      String last = Integer.toString(radix[k] - 1, 16);
      B.circuit(assigned(8, number + "1" + last));
      B.circuit(assigned(8, number + "1" + last.toUpperCase()));
      B.dueFault(1, assigned(8, "#" + number + "1" + (radix[k] == 16 ? "g" : Integer.toString(radix[k], 16))));
    }
  }

  private static void values() {
    B.says("with a value below 2 to the width");
    int[] radix = {2, 8, 10, 16};
    for (int w = 1; w <= 64; w++) {
      BigInteger above = BigInteger.TWO.pow(w);
      BigInteger most = above.subtract(BigInteger.ONE);
      for (int k = 0; k < 4; k++) {
        String front = w + "'" + "bodh".charAt(k);
        CircuitCycles x = B.circuit(assigned(w, front + most.toString(radix[k])));
        B.due("2 to the " + w + ", less 1", x.value(0), most.longValue());
        B.dueFault(1, assigned(w, "#" + front + above.toString(radix[k])));
        B.dueFault(1, assigned(w, "#" + front + above.add(BigInteger.ONE).toString(radix[k])));
      }
    }
  }

  /** Values that would be small ones if they wrapped around at 32 or 64 bits, in each base. */
  private static void wrappedValues() {
    int[] radix = {2, 8, 10, 16};
    for (int w : new int[] {1, 8, 31, 32, 63, 64}) {
      for (int bits : new int[] {64, 65, 66, 67, 68, 96, 128, 192}) {
        for (int more = 0; more < 2; more++) {
          BigInteger value = BigInteger.TWO.pow(bits).add(BigInteger.valueOf(more));
          for (int k = 0; k < 4; k++) B.dueFault(1, assigned(w, "#" + w + "'" + "bodh".charAt(k) + value.toString(radix[k])));
        }
      }
    }
    BigInteger most = BigInteger.TWO.pow(64).subtract(BigInteger.ONE);
    for (int more = 1; more < 40; more++) B.dueFault(1, assigned(64, "#64'd" + most.add(BigInteger.valueOf(more))));
    for (int less = 0; less < 40; less++) {
      BigInteger value = most.subtract(BigInteger.valueOf(less));
      B.dueValue(B.circuit(assigned(64, "64'd" + value)), "o", value.longValue());
    }
    for (int digit = 0; digit < 10; digit++) B.dueFault(1, assigned(64, "#64'd" + most + digit));
    for (int n = 20; n < 60; n++) B.dueFault(1, assigned(64, "#64'd1" + "0".repeat(n)));
  }

  private static void zeros() {
    B.says("(Zeros in front of any of these digits are let in.)");
    String zeros = "0".repeat(15000);
    B.circuit("module m(input[" + zeros + "5:" + zeros + "]a);endmodule");
    for (char base : "bodh".toCharArray()) {
      B.dueValue(B.circuit(assigned(1, zeros + "1'" + base + zeros + "1")), "o", 1);
      B.dueValue(B.circuit(assigned(64, zeros + "64'" + base + zeros)), "o", 0);
    }
    B.dueValue(B.circuit(assigned(64, "64'd" + zeros + "18446744073709551615")), "o", -1);
    B.dueFault(1, assigned(64, "#64'd" + zeros + "18446744073709551616"));
    B.dueFault(1, assigned(1, "#" + zeros + "'b0"));
  }

  private static void signs() {
    B.says("SIGNS: && || == != <= >= << >> + - * & | ^ ~ ! < > ? : ; , . ( ) [ ] { } = @");
    for (String sign : "&& || == != <= >= << >> + - * & | ^ ~ ! < > ? : ; , . ( ) [ ] { } = @".split(" ")) {
      B.dueFault(2, "module m();endmodule #" + sign);
    }
    B.says("a byte with which no token begins");
    for (int c = 0; c < 256; c++) {
      if (isBlank(c) || isOfWord(c) && c != '$') continue;
      String text = "module m();endmodule " + (char) c;
      B.dueFaultAt(misfit(c), 21, text);
    }
  }

  private static void faultPlaces() {
    B.says("FAULT 1, at its first byte: a byte with which no token begins; a comment that does not end; a number that is not as said.");
    B.dueFault(1, "module m();endmodule #$$$");
    B.dueFault(1, "module m();endmodule #/* /* // \n ");
    B.dueFault(1, "module m();endmodule #/*" + " ".repeat(65000));
    B.dueFault(1, "module m();endmodule #64'd99999999999999999999");
    B.dueFault(1, "module m();endmodule #0000000000000065536");
    B.dueFault(1, "module m();endmodule #1'b01010101012");
    B.dueFault(1, "#0x");
  }
}
