import java.util.List;
import java.util.Random;

/** Any calls with any arguments in any state: nothing but what the document names is ever thrown. */
public final class AnyCallsTest {
  private static final Class<?> STATE = IllegalStateException.class;
  private static final Class<?> INDEX = IndexOutOfBoundsException.class;
  private static final Class<?> ARGUMENT = IllegalArgumentException.class;
  private static final Class<?> FULL = UnsupportedOperationException.class;

  private static long odd = 0;

  public static void main(String[] args) {
    int runs = args.length > 0 ? Integer.parseInt(args[0]) : 1500;
    long calls = 0;
    for (int n = 0; n < runs; n++) {
      Random random = new Random(77L * n + 5);
      CircuitCycles x = new CircuitCycles();
      for (int c = 0; c < 120; c++) {
        call(x, random);
        calls++;
      }
    }
    System.out.println("AnyCallsTest: " + calls + " calls, " + odd + " of them odd");
    if (odd != 0) System.exit(1);
  }

  private static int any(Random random) {
    switch (random.nextInt(8)) {
      case 0: return random.nextInt();
      case 1: return Integer.MAX_VALUE - random.nextInt(3);
      case 2: return Integer.MIN_VALUE + random.nextInt(3);
      case 3: return -1 - random.nextInt(3);
      case 4: return 1020 + random.nextInt(10);
      default: return random.nextInt(9);
    }
  }

  private static void call(CircuitCycles x, Random random) {
    int p = any(random);
    int q = any(random);
    switch (random.nextInt(14)) {
      case 0:
        go("feed", () -> x.feed(p, q, p ^ q, p + q, q), List.of(FULL));
        break;
      case 1:
        go("end", () -> x.end(p), List.of(ARGUMENT));
        break;
      case 2:
        go("read", x::read, List.of());
        break;
      case 3:
        go("fault", x::fault, List.of());
        break;
      case 4:
        go("count", () -> x.count(p), List.of(STATE, ARGUMENT));
        break;
      case 5:
        go("find", x::find, List.of(STATE));
        break;
      case 6:
        go("signal", () -> x.signal(p, q), List.of(STATE, INDEX, ARGUMENT));
        break;
      case 7:
        go("reset", x::reset, List.of(STATE));
        break;
      case 8:
        go("set", () -> x.set(p, q), List.of(STATE, INDEX, ARGUMENT));
        break;
      case 9:
        go("step", x::step, List.of(STATE));
        break;
      case 10:
        go("value", () -> x.value(p), List.of(STATE, INDEX));
        break;
      case 11:
        go("failing", x::failing, List.of(STATE));
        break;
      default:
        go("a text", () -> text(x, random), List.of());
        break;
    }
  }

  /** A whole text, sometimes spoiled, cut off or put together from scraps. */
  private static void text(CircuitCycles x, Random random) {
    String s = new RandomText(random).text();
    int kind = random.nextInt(5);
    if (kind == 0) s = RandomText.spoiled(s, random);
    if (kind == 1) s = s.substring(0, random.nextInt(s.length() + 1));
    if (kind == 2) s = s.substring(random.nextInt(s.length() + 1));
    if (kind == 3) {
      for (int i = 0; i < 6; i++) s = RandomText.spoiled(s, random);
    }
    x.end(0);
    Bench.read(x, s);
  }

  private static void go(String what, Bench.Call call, List<Class<?>> allowed) {
    try {
      call.go();
    } catch (RuntimeException e) {
      if (allowed.contains(e.getClass())) return;
      odd++;
      System.out.println(what + " threw " + e);
    }
  }
}
