import java.util.ArrayList;
import java.util.List;

/**
 * FAULT 2, "at the first token with which no design goes on": in a text with all that the grammar
 * has, each token is left out, doubled, and has each kind of token in its place and before it. The
 * Oracle says what is due.
 */
public final class EveryTokenTest {
  private static final Bench B = new Bench("EveryTokenTest");
  private static final String[] KINDS = ("module endmodule input output wire reg assign always posedge clock begin end if else case endcase default assert"
      + " a zz s 0 1 65536 1'b1 2'd3 1'b2 && || == != <= >= << >> + - * & | ^ ~ ! < > ? : ; , . ( ) [ ] { } = @ $ ' / /* //").split(" ");
  private static final String[] TEXTS = {
      "module s ( input [ 1 : 0 ] i , output o , output reg q = 1'b1 ) ; assign o = i [ 0 ] ; endmodule"
          + " module m ( input a ) ; wire w ; wire v ; s u ( . i ( { a , a } ) , . o ( w ) , . q ( v ) ) ; assert ( w ) ; endmodule",
      "module m ( input a , output reg [ 1 : 0 ] b = 2'd1 ) ; reg c ; always @ ( posedge clock ) begin if ( a ) b [ 1 : 0 ] <= b ; else if ( c )"
          + " begin end case ( b ) 2'd0 , 2'd1 : c <= a ; 2'd2 : b [ 0 ] <= a ; default : c <= c ; endcase end endmodule",
      "module m ( input a ) ; wire [ 1 : 0 ] w ; assign w = a ? { 2 { a } } : { a , ~ a } ; assert ( ! w && ( a || w [ a ] ) == w [ 1 ] ) ;"
          + " wire x ; assign x = a | a ^ a & a != a < a << a + a * - a ; endmodule"};

  private static final CircuitCycles USED = new CircuitCycles();

  public static void main(String[] args) {
    for (String text : TEXTS) {
      B.circuit(text);
      List<String> tokens = List.of(text.split(" "));
      for (int at = 0; at <= tokens.size(); at++) {
        if (at < tokens.size()) compare(changed(tokens, at, 1, ""));
        for (String kind : KINDS) {
          compare(changed(tokens, at, 0, kind));
          if (at < tokens.size()) compare(changed(tokens, at, 1, kind));
        }
      }
    }
    B.end();
  }

  /** The text with that token in place of so many others. */
  private static String changed(List<String> tokens, int at, int places, String token) {
    List<String> row = new ArrayList<>(tokens.subList(0, at));
    if (!token.isEmpty()) row.add(token);
    row.addAll(tokens.subList(at + places, tokens.size()));
    return String.join(" ", row);
  }

  private static void compare(String text) {
    int code = 0;
    int place = -1;
    try {
      new Oracle(text);
    } catch (Oracle.Fault f) {
      code = f.code;
      place = f.place;
    }
    B.due("read of " + text, Bench.read(USED, text), place);
    B.due("fault of " + text, USED.fault(), code);
  }
}
