import java.util.Random;
import java.util.TreeMap;

/** Compares the class with the Oracle on random texts and runs: promises 4 to 13. */
public final class RandomTest {
  private static final Bench BENCH = new Bench("RandomTest");

  public static void main(String[] args) {
    int texts = args.length > 0 ? Integer.parseInt(args[0]) : 6000;
    long seed = args.length > 1 ? Long.parseLong(args[1]) : 1;
    TreeMap<Integer, Integer> faults = new TreeMap<>();
    CircuitCycles x = new CircuitCycles();
    Oracle running = null;
    for (int n = 0; n < texts; n++) {
      Random random = new Random(seed * 1000003 + n);
      if (random.nextInt(4) == 0) {
        x = new CircuitCycles();
        running = null;
      }
      String text = new RandomText(random).text();
      if (random.nextInt(3) == 0) text = RandomText.spoiled(text, random);
      Oracle o = null;
      int code = 0;
      int place = -1;
      try {
        o = new Oracle(text);
      } catch (Oracle.Fault f) {
        code = f.code;
        place = f.place;
      }
      String what = " of text " + n + ":\n" + text + "\n";
      BENCH.due("read" + what, Bench.read(x, text), place);
      BENCH.due("fault" + what, x.fault(), code);
      faults.merge(code, 1, Integer::sum);
      if (o != null) running = o;
      if (running != null && x.fault() == code) compare(x, running, random, o != null, what);
    }
    System.out.println("faults and how often they were: " + faults);
    BENCH.end();
  }

  private static void compare(CircuitCycles x, Oracle o, Random random, boolean isNew, String what) {
    if (isNew) {
      for (int i = 0; i <= 6; i++) BENCH.due("count(" + i + ")" + what, x.count(i), o.count(i));
      for (Oracle.Signal s : o.signals) {
        BENCH.due("find " + s.path + what, Bench.find(x, s.path), s.number);
        BENCH.due("width of " + s.path + what, x.signal(s.number, 0), s.declared.width);
        BENCH.due("sort of " + s.path + what, x.signal(s.number, 1), o.sort(s.number));
        BENCH.due("place of " + s.path + what, x.signal(s.number, 2), s.declared.place);
      }
    }
    int cycles = isNew ? 12 : 2;
    for (int c = 0; c < cycles; c++) {
      for (Oracle.Signal s : o.signals) {
        if (!s.isInput() || random.nextInt(2) == 0) continue;
        int v = random.nextInt(1 << s.declared.width);
        x.set(s.number, v);
        o.set(s.number, v);
      }
      if (random.nextInt(3) != 0) {
        BENCH.due("failing in " + c + what, x.failing(), o.failing());
        for (Oracle.Signal s : o.signals) {
          BENCH.due("value of " + s.path + " in " + c + what, x.value(s.number), o.value(s).longValue());
        }
      }
      if (random.nextInt(15) == 0) {
        x.reset();
        o.reset();
      } else {
        BENCH.due("step" + what, x.step(), o.step());
      }
    }
  }
}
