import java.lang.management.ManagementFactory;
import java.lang.reflect.Array;
import java.lang.reflect.Field;
import java.lang.reflect.Modifier;
import java.util.ArrayDeque;
import java.util.Collections;
import java.util.IdentityHashMap;
import java.util.Set;

/**
 * All rows are made with the object: what a new one holds fits into the room of a run, and no call
 * makes anything after that.
 */
public final class RoomTest {
  private static final Bench BENCH = new Bench("RoomTest");
  private static final com.sun.management.ThreadMXBean THREADS =
      (com.sun.management.ThreadMXBean) ManagementFactory.getThreadMXBean();

  /** What the Java machine itself may take; a row that grows with a tape would be far above it. */
  private static final long MACHINES_OWN = 2000;

  /** Calls are counted from the second round on: in the first the machine gets its classes ready. */
  private static boolean counting = false;

  public static void main(String[] args) {
    BENCH.says("Room: all memory is the class's own, made once or bounded by the tape.");
    newObject();
    callsMakeNothing();
    counting = true;
    callsMakeNothing();
    rowsStayTheSame();
    fullRows();
    mostWaiting();
    BENCH.end();
  }

  private static void newObject() {
    Holdings held = new Holdings(new CircuitCycles());
    System.out.println("a new object holds " + held.objects + " objects and arrays, " + held.elements + " fields and elements");
    BENCH.due("at most 200 objects", held.objects <= 200 ? 1 : 0, 1);
    BENCH.due("at most a million fields and elements", held.elements <= 1000000 ? 1 : 0, 1);
  }

  /** Ten thousand bytes are about what 512 calls can feed; 65536 are the most that a tape can have. */
  private static void callsMakeNothing() {
    for (int size : new int[] {10000, 65536}) {
      for (String text : new String[] {circuit(size), fault(size), names(size), signs(size), modules(size)}) {
        measure(new CircuitCycles(), text);
      }
      CircuitCycles x = new CircuitCycles();
      measure(x, circuit(200));
      measure(x, circuit(size));
      measure(x, fault(size));
      measure(x, circuit(size));
    }
  }

  private static void measure(CircuitCycles x, String text) {
    byte[] bytes = Bench.bytes(text);
    String what = " of " + bytes.length + " bytes " + text.substring(0, 40);
    dueNothing("feed" + what, () -> Bench.feed(x, bytes, 0));
    dueNothing("read" + what, x::read);
    if (x.fault() != 0) return;
    byte[] name = Bench.bytes("u.o");
    dueNothing("find" + what, () -> {
      Bench.feed(x, name, 0);
      x.find();
    });
    dueNothing("count" + what, () -> x.count(2));
    dueNothing("signal" + what, () -> x.signal(0, 2));
    dueNothing("set" + what, () -> x.set(0, 1));
    dueNothing("value" + what, () -> x.value(0));
    dueNothing("failing" + what, x::failing);
    dueNothing("step" + what, x::step);
    dueNothing("reset" + what, x::reset);
  }

  private static void dueNothing(String what, Bench.Call call) {
    long before = THREADS.getCurrentThreadAllocatedBytes();
    call.go();
    long made = THREADS.getCurrentThreadAllocatedBytes() - before;
    BENCH.due(what + " made " + made + " bytes: is that nothing", !counting || made <= MACHINES_OWN ? 1 : 0, 1);
  }

  /** The same objects and rows before and behind calls, whatever they read. */
  private static void rowsStayTheSame() {
    CircuitCycles x = new CircuitCycles();
    Holdings before = new Holdings(x);
    for (String text : new String[] {circuit(300), circuit(65536), fault(65536), "", names(65536), circuit(9000)}) {
      Bench.read(x, text);
      Bench.find(x, "u.o");
    }
    Holdings behind = new Holdings(x);
    behind.seen.removeAll(before.seen);
    BENCH.due("objects and arrays that were not there before", behind.seen.size(), 0);
  }

  /** A full tape of the shortest things of each kind: what is told behind all of them is still there. */
  private static void fullRows() {
    dueTop(filled("module f(input a);assert(a", "|a", ");endmodule ", FRONT));
    dueTop(filled("module f(input a);assert(a|", "-", "a);endmodule ", FRONT));
    dueTop(filled("module f();assert(1'b0", "|1'b0", ");endmodule ", FRONT));
    dueTop(filled("module f(input a);", "assert(a);", "endmodule ", FRONT));
    dueTop(filled("module f(input a);reg r;always@(posedge clock)case(a)", "1'b0:r<=a;", "endcase endmodule ", FRONT));
    dueTop(filledByNames("module f(input a);", "reg ", ";", "endmodule "));
    dueTop(filledByNames("module e();endmodule module f();", "e ", "();", "endmodule "));
    dueTop(filledByNames("", "module ", "();endmodule ", ""));
    dueTop(ports());
    dueTop(shortestLinks());
    BENCH.due("read of signs alone", Bench.read(new CircuitCycles(), ";".repeat(65536)), 0);
    BENCH.due("read of words alone", Bench.read(new CircuitCycles(), filledByNames("", "", " ", "") + " ".repeat(300)), 0);
  }

  /** At all 60 open places an operator of each rank waits, and signs before an operand. */
  private static void mostWaiting() {
    for (String last : new String[] {"(", "~(", "-~!(", "-{", "^-b[-", "!a?b^"}) {
      String closing = last.endsWith("(") ? ")" : last.endsWith("{") ? "}" : last.endsWith("-") ? "]" : ":-a";
      String text = "module m(input a,input b,output o);assign o="
          + ("b||a&&b|b^a&b==a<b<<a+b*" + last).repeat(60) + "-a" + closing.repeat(60) + ";endmodule";
      CircuitCycles x = BENCH.circuit(text);
      Oracle o = new Oracle(text);
      for (int n = 0; n < 4; n++) {
        for (int s = 0; s < 2; s++) {
          x.set(s, (n >> s) & 1);
          o.set(s, (n >> s) & 1);
        }
        BENCH.due("value with " + n + " of " + text, x.value(2), o.value(o.signals.get(2)).longValue());
      }
      BENCH.due("cost of " + text, x.count(6), o.count(6));
    }
  }

  private static final int FRONT = 65536 - 300;

  /** As many different names as there is room for, each between these two. */
  private static String filledByNames(String head, String before, String behind, String tail) {
    StringBuilder text = new StringBuilder(head);
    for (int n = 0; text.length() < FRONT - 60; n++) text.append(before).append(Bench.word(n)).append(behind);
    return filled(text.toString(), " ", tail, FRONT);
  }

  /** A module with many ports, an instance that links all of them, and instances of that in turn. */
  private static String ports() {
    StringBuilder ports = new StringBuilder("module f(input A");
    StringBuilder links = new StringBuilder("f h(.A(a)");
    for (int n = 1; n < 1500; n++) {
      ports.append(",input ").append(Bench.word(n));
      links.append(",.").append(Bench.word(n)).append("(a)");
    }
    String text = ports + ");endmodule module g(input a);" + links + ");f i(.A(a)" + links.substring(9) + ");";
    return filled(text, " ", "endmodule ", FRONT);
  }

  /** Links of six bytes alone: all names of one byte are ports, in as many instances as there is room for. */
  private static String shortestLinks() {
    String names = "abcdefghijklmnopqrstuvwxyzABCDEFGHIJKLMNOPQRSTUVWXYZ_";
    StringBuilder text = new StringBuilder("module ee(input a");
    StringBuilder links = new StringBuilder("(.a(a)");
    for (char name : names.substring(1).toCharArray()) {
      text.append(",input ").append(name);
      links.append(",.").append(name).append("(a)");
    }
    text.append(");endmodule module ff(input a);");
    for (int n = 26; text.length() + links.length() < FRONT - 30; n++) text.append("ee ").append(Bench.word(n)).append(links).append(");");
    return filled(text.toString(), " ", "endmodule ", FRONT);
  }

  private static void dueTop(String front) {
    String top = "module zs(input[7:0]i,output[7:0]o);assign o=i+8'd200;assert(o!=8'd207);endmodule "
        + "module zz(input[1:0]a);wire[7:0]w;reg r=1'b1;zs u(.i({6'd1,a}),.o(w));"
        + "always@(posedge clock)case(a)2'd3:r<=1'b0;endcase endmodule";
    String what = " behind " + front.substring(0, 40);
    CircuitCycles x = new CircuitCycles();
    BENCH.due("read" + what, Bench.read(x, filled(front, " ", top, 65536)), CircuitCycles.NONE);
    BENCH.due("fault" + what, x.fault(), 0);
    if (x.fault() != 0) return;
    BENCH.due("signals" + what, x.count(2), 5);
    BENCH.due("asserts" + what, x.count(5), 1);
    BENCH.due("place of w" + what, x.signal(Bench.find(x, "w"), 2), 65536 - top.length() + top.indexOf("w;"));
    BENCH.due("find" + what, Bench.find(x, "u.o"), 4);
    x.set(0, 3);
    BENCH.due("value" + what, x.value(4), 207);
    BENCH.due("value" + what, x.value(1), 207);
    BENCH.due("failing" + what, x.failing(), 1);
    BENCH.due("step" + what, x.step(), 1);
    BENCH.due("register" + what, x.value(2), 0);
    BENCH.due("the same name again" + what, Bench.read(x, filled(front, " ", "module zs(input a,input b,input a);endmodule", 65536)), 65536 - 12);
    BENCH.due("its fault" + what, x.fault(), 21);
  }

  private static String filled(String head, String more, String tail, int size) {
    StringBuilder text = new StringBuilder(head);
    while (text.length() + more.length() + tail.length() <= size) text.append(more);
    while (text.length() + tail.length() < size) text.append(' ');
    return text.append(tail).toString();
  }

  private static String circuit(int size) {
    return filled(
        "module s(input i,output o);assign o=~i;assert(o|i);endmodule module m(input a);wire p;reg r=1'b1;s u(.i(a),.o(p));assert(p|",
        "(a)|", "a);always@(posedge clock)case(p)1'b1:r<=1'b0;endcase endmodule", size);
  }

  private static String fault(int size) {
    return filled("module m(input a);", "assert(a);", "@", size);
  }

  private static String names(int size) {
    StringBuilder text = new StringBuilder("module m(input a);");
    for (int n = 0; text.length() < size - 40; n++) text.append("reg ").append(Bench.word(n)).append(';');
    return filled(text.toString(), "\n", "endmodule", size);
  }

  private static String signs(int size) {
    return filled("module m(input a);assert(", "~!-&|^", "a);endmodule", size);
  }

  private static String modules(int size) {
    StringBuilder text = new StringBuilder();
    for (int n = 0; text.length() < size - 60; n++) text.append("module ").append(Bench.word(n)).append("();endmodule ");
    return filled(text.toString(), "\n", "module m(input a);endmodule", size);
  }

  /** All that an object holds, itself with it. */
  private static final class Holdings {
    final Set<Object> seen = Collections.newSetFromMap(new IdentityHashMap<>());
    private final ArrayDeque<Object> open = new ArrayDeque<>();
    long objects;
    long elements;

    Holdings(Object root) {
      meet(root);
      while (!open.isEmpty()) {
        Object next = open.remove();
        objects++;
        if (next.getClass().isArray()) lookIntoArray(next);
        else lookIntoObject(next);
      }
    }

    private void meet(Object found) {
      if (found != null && seen.add(found)) open.add(found);
    }

    private void lookIntoArray(Object array) {
      elements += Array.getLength(array);
      if (array.getClass().getComponentType().isPrimitive()) return;
      for (int i = 0; i < Array.getLength(array); i++) meet(Array.get(array, i));
    }

    private void lookIntoObject(Object object) {
      for (Field field : object.getClass().getDeclaredFields()) {
        if (Modifier.isStatic(field.getModifiers())) continue;
        elements++;
        if (field.getType().isPrimitive()) continue;
        try {
          field.setAccessible(true);
          meet(field.get(object));
        } catch (IllegalAccessException e) {
          throw new AssertionError(e);
        }
      }
    }
  }
}
