import java.lang.reflect.Method;
import java.util.ArrayList;
import java.util.Arrays;
import java.util.HashMap;
import java.util.List;
import java.util.Map;

/** Calls by their names, so that one row of them can be made on BlackGlass and on Naive; and states made by such rows. */
final class Calls {
  /** One call. */
  record Step(String name, Object... args) {
    String words() {
      String all = Arrays.toString(args);
      return name + "(" + all.substring(1, all.length() - 1) + ")";
    }
  }

  /** Ways to have used an object: not at all, as usual, up to its bounds, without a way for the YEARS, with all numbers at their ends. */
  enum State { EMPTY, TOLD, FULL, NO_WAY, ENDS }

  static final int PROBES = 2;
  private static final Map<String, Method> KNOWN = new HashMap<>();

  private Calls() { }

  static int make(Object on, Step step) {
    try {
      return (Integer) method(on.getClass(), step.name()).invoke(on, step.args());
    } catch (ReflectiveOperationException e) {
      throw new IllegalStateException(step.words(), e);
    }
  }

  static void makeAll(Object on, List<Step> steps) {
    for (Step step : steps) make(on, step);
  }

  private static Method method(Class<?> type, String name) throws ReflectiveOperationException {
    String key = type.getName() + "." + name;
    Method known = KNOWN.get(key);
    if (known != null) return known;
    for (Method face : BlackGlass.class.getMethods()) {
      if (face.getName().equals(name) && face.getReturnType() == int.class) known = type.getDeclaredMethod(name, face.getParameterTypes());
    }
    KNOWN.put(key, known);
    return known;
  }

  // ---- states

  static List<Step> stateOf(State state) {
    List<Step> all = new ArrayList<>();
    switch (state) {
      case EMPTY: break;
      case TOLD: tellUsual(all); break;
      case FULL: tellFull(all); break;
      case NO_WAY: tellUsual(all); all.add(new Step("rim", 3, 1, 0)); break;
      default: tellEnds(all);
    }
    return all;
  }

  private static void tellUsual(List<Step> all) {
    tell(all, "flow 0 0 100 100 100 100 0;flow 1 1 200 101 100 100 1;flow 8 2 300 500 500 500 9;land 0 1 10;boat 1 2 20");
    tell(all, "place 1 10 9900 50;place 2 20 8000 60;near 25;far 35;land 0 2 90");
    all.add(new Step("blade", 0, Sheet.numbers(100, 100, 100), 1, 9, 3));
    all.add(new Step("blade", 0, Sheet.numbers(101, 100, 100), 2, 7, 2));
    all.add(new Step("blade", 1, Sheet.numbers(102, 100, 100), 1, 5, 1));
    all.add(new Step("blade", 2, Sheet.numbers(500, 490, 500), 9, 3, 0));
    all.add(new Step("rim", 0, 200, 100));
    all.add(new Step("rim", 1, 150, 0));
    all.add(new Step("strike", 1, 0));
    all.add(new Step("strike", 2, 1));
    all.add(new Step("dated", 0, 9600));
    all.add(new Step("dated", 2, 5000));
    all.add(new Step("counts", 0, 0, 9, 10));
    all.add(new Step("counts", 1, 0, 5, 10));
    all.add(new Step("counts", 2, 8, 1, 3));
    write(all, "near 5;fa");
  }

  private static void tellFull(List<Step> all) {
    for (int f = 0; f < 9; f += 3) {
      StringBuilder flows = new StringBuilder();
      for (int i = f; i < f + 3; i++) flows.append(i > f ? ";" : "").append("flow ").append(i).append(' ').append(i).append(" 9 100 100 100 ").append(i);
      tell(all, flows.toString());
    }
    tell(all, "boat0 1 9;boat1 2 9;boat2 3 9;boat3 4 9;land4 5 9;land5 6 9;land6 7 9;land8 9 9");
    for (int b = 0; b < 12; b++) all.add(new Step("blade", b % 10, Sheet.numbers(100, 100, 100 + b), 1 + b, 900 - b, b));
    for (int b = 1; b < 12; b++) all.add(new Step("strike", b, b - 1));
    for (int b = 0; b < 12; b += 2) all.add(new Step("rim", b, 300 - b, 0));
    for (int b = 0; b < 12; b += 3) all.add(new Step("dated", b, 9150));
    for (int p = 0; p < 10; p++) all.add(new Step("counts", p, p % 9, p, 10));
    write(all, " ".repeat(194) + "near 7");
  }

  private static void tellEnds(List<Step> all) {
    tell(all, "place 9 9999 9999 999;place 0 0 0 1;flow 8 9 9999 999 999 999 99;flow 0 0 0 0 0 0 0;land 0 9 999;boat 0 9 1;near 0;far 999");
    all.add(new Step("blade", 9, Sheet.numbers(999, 999, 999), 99, 999, 99));
    all.add(new Step("blade", 0, 0, 1, 1, 0));
    all.add(new Step("rim", 0, 1, 0));
    all.add(new Step("rim", 1, 999, 998));
    all.add(new Step("dated", 0, 9999));
    all.add(new Step("dated", 1, 0));
    all.add(new Step("counts", 9, 8, 999, 999));
    all.add(new Step("counts", 0, 0, 0, 1));
    write(all, "far 99");
  }

  private static void tell(List<Step> all, String text) {
    write(all, text);
    all.add(new Step("land"));
  }

  static void write(List<Step> all, String text) {
    for (int at = 0; at < text.length(); at += 8) {
      int n = Math.min(8, text.length() - at);
      long bytes = 0;
      for (int i = 0; i < n; i++) bytes |= (long) (text.charAt(at + i) & 255) << 8 * i;
      all.add(new Step("write", bytes, n));
    }
  }

  // ---- what can be seen of an object

  /** Calls whose answers show all that an object holds, in parts, so that no object is used for more than 512 calls. */
  static List<Step> probe(int part) {
    List<Step> all = new ArrayList<>();
    for (int w = 0; w < 6; w++) all.add(new Step("count", w));
    if (part == 0) probeTold(all);
    else probeFound(all);
    return all;
  }

  private static void probeTold(List<Step> all) {
    for (int p = 0; p < 10; p++) for (int w = 0; w < 3; w++) all.add(new Step("place", p, w));
    for (int f = 0; f < 9; f++) for (int w = 0; w < 6; w++) all.add(new Step("flow", f, w));
    for (int p = 0; p < 10; p++) {
      for (int q = p + 1; q < 10; q++) {
        all.add(new Step("way", p, q, 0));
        all.add(new Step("way", q, p, 1));
      }
    }
    for (int f = 0; f < 9; f++) for (int law = 0; law < 3; law++) all.add(new Step("miss", f, law, 1 + f + 30 * law));
    probeText(all);
  }

  /** THE TEXT's bytes show by its FAULT, by what it tells, and by what it tells together with more bytes. */
  private static void probeText(List<Step> all) {
    all.add(new Step("fault"));
    write(all, "r 8");
    all.add(new Step("fault"));
    all.add(new Step("land"));
    all.add(new Step("count", 3));
    all.add(new Step("count", 4));
    all.add(new Step("erase"));
  }

  private static void probeFound(List<Step> all) {
    for (int b = 0; b < 12; b++) for (int w = 0; w < 10; w++) all.add(new Step("of", b, w));
    for (int b = 0; b < 12; b++) for (int w = 0; w < 6; w += 5) all.add(new Step("span", b, w));
    for (int b = 0; b < 12; b++) all.add(new Step("from", b));
    for (int p = 0; p < 10; p++) for (int w = 0; w < 2; w++) all.add(new Step("learnt", p, w));
    for (int w = -2; w < 12; w++) all.add(new Step("chain", w));
    all.add(new Step("boats"));
    all.add(new Step("sea"));
    all.add(new Step("next"));
  }
}
