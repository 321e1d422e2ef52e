import java.util.ArrayList;
import java.util.Arrays;
import java.util.List;
import java.util.Random;

/** SPANS, HEIRLOOM and MAY be STRUCK on small lands, by trying all YEARS that all BLADES could have, one way after the other. */
public final class TryingTest {
  private static final int NONE = -1;
  private static final int RUNS = 3000;
  private static final int BLADES = 3;
  private static final int FIRST = 9991, NOW = 9999;
  private static final int MOST_TOLD = 20;
  private static int wrong = 0;
  private static int withWay = 0;
  private static int withoutWay = 0;

  private final Random random;
  private final BlackGlass glass = new BlackGlass();
  private final StringBuilder calls = new StringBuilder();
  // Of three PLACES: LIVE from, to, WARMTH; the FLOW 0 is OPEN from 'open' on, FLOW 1 from FIRST on.
  private final int[][] places = new int[3][];
  private int open;
  // Of each BLADE: PLACE, LAYER, SIZE, RIM, SECOND RIM, struck from, and whether it can be of FLOW 1 alone.
  private final int[][] blades = new int[BLADES][];

  private TryingTest(int seed) {
    random = new Random(seed);
  }

  public static void main(String[] args) {
    for (int seed = 1; seed <= RUNS && wrong < MOST_TOLD; seed++) {
      TryingTest test = new TryingTest(seed);
      test.tell();
      test.hold();
    }
    if (withWay < RUNS / 5 || withoutWay < RUNS / 5) {
      wrong++;
      System.out.println("too few runs with a way (" + withWay + ") or without (" + withoutWay + ")");
    }
    System.out.println(wrong == 0 ? "all answers are as by trying" : wrong + " answers differ");
    if (wrong != 0) System.exit(1);
  }

  private int pick(int a, int b) { return a + random.nextInt(b - a + 1); }

  private void tell() {
    StringBuilder text = new StringBuilder();
    for (int p = 0; p < 3; p++) {
      int a = pick(FIRST, NOW), b = pick(FIRST, NOW);
      places[p] = new int[] {Math.min(a, b), Math.max(a, b), pick(1, 5)};
      text.append("place ").append(p).append(' ').append(places[p][0]).append(' ').append(places[p][1]).append(' ').append(places[p][2]).append(';');
    }
    open = pick(FIRST, NOW);
    text.append("flow 0 0 ").append(open).append(" 100 100 100 0;flow 1 0 ").append(FIRST).append(" 200 200 200 0");
    calls.append(text);
    Sheet.tell(glass, text.toString());
    for (int b = 0; b < BLADES; b++) {
      int rim = random.nextInt(3) == 0 ? pick(1, 5) : 0;
      int second = rim > 1 && random.nextBoolean() ? pick(1, rim - 1) : 0;
      blades[b] = new int[] {pick(0, 2), pick(0, 2), pick(1, 4), rim, second, NONE, random.nextInt(3) == 0 ? 1 : 0};
      int number = blades[b][6] == 1 ? 200 : 100;
      glass.blade(blades[b][0], Sheet.numbers(number, number, number), 1, blades[b][2], blades[b][1]);
      glass.rim(b, rim, second);
    }
    for (int i = pick(0, 2); i > 0; i--) {
      int b = pick(0, BLADES - 1), from = pick(0, BLADES - 1);
      if (glass.strike(b, from) == 1) blades[b][5] = from;
    }
    for (int[] b : blades) calls.append(' ').append(Arrays.toString(b));
  }

  private void due(String call, int want, int got) {
    if (want != got) {
      wrong++;
      System.out.println(calls + ": " + call + " answered " + got + ", due is " + want);
    }
  }

  private void hold() {
    int[][] spans = tryAll();
    if (spans == null) withoutWay++;
    else withWay++;
    for (int b = 0; b < BLADES; b++) {
      for (int w = 0; w < 6; w++) due("span(" + b + ", " + w + ")", spans == null ? NONE : spans[b][w], glass.span(b, w));
      due("heirloom(" + b + ")", spans == null ? NONE : heirloom(spans[b]), glass.heirloom(b));
      due("from(" + b + ")", from(b), glass.from(b));
    }
  }

  private static int heirloom(int[] span) {
    int made = span[2] == NONE ? 0 : 2;
    return span[made + 1] < span[4] ? 2 : span[made] < span[5] ? 1 : 0;
  }

  private int from(int b) {
    int bits = 0, own = blades[b][5];
    for (int other = 0; other < BLADES; other++) {
      boolean struckFromIt = false;
      for (int up = blades[other][5]; up != NONE; up = blades[up][5]) struckFromIt |= up == b;
      if (other == b || struckFromIt || blades[other][6] != blades[b][6] || blades[other][2] <= blades[b][2]) continue;
      blades[b][5] = other;
      if (tryAll() != null) bits |= 1 << other;
      blades[b][5] = own;
    }
    return bits;
  }

  /** The YEARS {STRUCK, AGAIN (or NONE), LAID} that one BLADE by itself can have. */
  private List<int[]> ownYears(int[] b) {
    List<int[]> all = new ArrayList<>();
    int[] place = places[b[0]];
    for (int struck = b[6] == 1 ? FIRST : open; struck <= NOW; struck++) {
      if (b[3] > 0 && !isInSpan(struck, b[3], place[2])) continue;
      for (int laid = Math.max(struck, place[0]); laid <= place[1]; laid++) {
        if (b[4] == 0) all.add(new int[] {struck, NONE, laid});
        for (int again = struck; b[4] > 0 && again <= laid; again++) {
          if (isInSpan(again, b[4], place[2])) all.add(new int[] {struck, again, laid});
        }
      }
    }
    return all;
  }

  private static boolean isInSpan(int year, int rim, int warmth) {
    int ago = NOW - year;
    return (rim - 1) * (rim - 1) / warmth <= ago && ago <= (rim + 1) * (rim + 1) / warmth;
  }

  private boolean fit(int i, int[] mine, int j, int[] its) {
    if (blades[i][5] == j && mine[0] < its[0]) return false;
    if (blades[j][5] == i && its[0] < mine[0]) return false;
    if (blades[i][0] != blades[j][0]) return true;
    if (blades[i][1] > blades[j][1] && mine[2] > its[2]) return false;
    return blades[j][1] <= blades[i][1] || its[2] <= mine[2];
  }

  /** The least and the greatest of each YEAR over all ways; null, if there is none. */
  private int[][] tryAll() {
    int[][] spans = null;
    List<int[]> second = ownYears(blades[1]), third = ownYears(blades[2]);
    for (int[] a : ownYears(blades[0])) {
      for (int[] b : second) {
        if (!fit(0, a, 1, b)) continue;
        for (int[] c : third) {
          if (fit(0, a, 2, c) && fit(1, b, 2, c)) spans = widen(spans, a, b, c);
        }
      }
    }
    return spans;
  }

  private static int[][] widen(int[][] spans, int[]... way) {
    int[][] all = spans;
    if (all == null) {
      all = new int[BLADES][6];
      for (int b = 0; b < BLADES; b++) for (int w = 0; w < 6; w++) all[b][w] = way[b][w / 2];
    }
    for (int b = 0; b < BLADES; b++) {
      for (int w = 0; w < 6; w++) all[b][w] = w % 2 == 0 ? Math.min(all[b][w], way[b][w / 2]) : Math.max(all[b][w], way[b][w / 2]);
    }
    return all;
  }
}
