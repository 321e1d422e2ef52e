import java.lang.reflect.Method;
import java.util.ArrayList;
import java.util.Arrays;
import java.util.List;

/** Rule 7 of LANGUAGE.md: arguments of every kind in every state. Each call ends and answers as the slow one does. */
public final class WildTest {
  private static final int[] NUMBERS = {
    Integer.MIN_VALUE, Integer.MIN_VALUE + 1, -1000, -6, -5, -4, -3, -2, -1, 0, 1, 2, 3, 4, 5, 6, 8, 9, 10, 11, 12, 13, 98, 99,
    100, 200, 998, 999, 1000, 1023, 9998, 9999, 10000, 1 << 30, Integer.MAX_VALUE - 1, Integer.MAX_VALUE};
  private static final long[] BYTES = {0, -1, Long.MIN_VALUE, Long.MAX_VALUE, 0x2020202020202020L, 0x35207261656E3B20L, 0x3939393939393939L, 0x61};
  private static final int CALLS = 512;
  private static final int MOST_TOLD = 20;

  private final Calls.State state;
  private BlackGlass glass;
  private Naive naive;
  private int left;
  private static int made = 0;
  private static int wrong = 0;

  private WildTest(Calls.State its) {
    state = its;
    begin();
  }

  public static void main(String[] args) {
    Method[] face = BlackGlass.class.getDeclaredMethods();
    Arrays.sort(face, (a, b) -> a.getName().compareTo(b.getName()));
    for (Calls.State state : Calls.State.values()) {
      WildTest test = new WildTest(state);
      for (Method m : face) if (java.lang.reflect.Modifier.isPublic(m.getModifiers())) test.tryOut(m.getName(), m.getParameterTypes());
      test.end();
    }
    System.out.println(wrong == 0 ? "as the slow one: all of " + made + " calls" : wrong + " answers differ");
    if (wrong != 0) System.exit(1);
  }

  private void begin() {
    glass = new BlackGlass();
    naive = new Naive();
    List<Calls.Step> steps = Calls.stateOf(state);
    left = CALLS - steps.size() - Calls.probe(1).size();
    for (Calls.Step step : steps) make(step);
  }

  /** What all these calls left behind is the same, too. */
  private void end() {
    for (Calls.Step step : Calls.probe(made % Calls.PROBES)) make(step);
  }

  private void make(Calls.Step step) {
    if (wrong >= MOST_TOLD) return;
    made++;
    int got = Calls.make(glass, step), due = Calls.make(naive, step);
    if (got != due) {
      wrong++;
      System.out.println(step.words() + " in " + state + " answered " + got + ", due is " + due);
    }
  }

  private void makeNext(Calls.Step step) {
    if (left == 0) {
      end();
      begin();
    }
    left--;
    make(step);
  }

  /** Each two of the arguments take all kinds of numbers together, the others ones that are likely to be inside. */
  private void tryOut(String name, Class<?>[] types) {
    int n = types.length;
    if (n == 0) {
      makeNext(new Calls.Step(name));
      return;
    }
    for (int a = 0; a < n; a++) {
      for (int b = a + 1; b < n || b == 1 && n == 1; b++) {
        for (Object first : kinds(types[a])) {
          for (Object second : b < n ? kinds(types[b]) : List.<Object>of(0)) makeNext(new Calls.Step(name, with(name, types, a, first, b, second)));
        }
      }
    }
  }

  private static List<Object> kinds(Class<?> type) {
    List<Object> all = new ArrayList<>();
    if (type == boolean.class) all.addAll(List.of(true, false));
    if (type == long.class) for (long bytes : BYTES) all.add(bytes);
    if (type == int.class) for (int number : NUMBERS) all.add(number);
    return all;
  }

  private static Object[] with(String name, Class<?>[] types, int a, Object first, int b, Object second) {
    Object[] all = new Object[types.length];
    for (int i = 0; i < all.length; i++) {
      int likely = name.equals("blade") && i > 0 || name.equals("counts") && i > 1 || name.equals("miss") && i == 2 ? 1 + i : 0;
      all[i] = types[i] == boolean.class ? (Object) true : types[i] == long.class ? (Object) 32L : (Object) likely;
    }
    all[a] = first;
    if (b < all.length) all[b] = second;
    return all;
  }
}
