import java.util.ArrayList;
import java.util.List;
import java.util.Random;
import java.util.TreeMap;

/** Random runs of calls, each answered by BlackGlass as by the slow second writing of the document. */
public final class NaiveTest {
  private static final int RUNS = 600;
  private static final int CALLS = 512;
  private static final int MOST_TOLD = 20;
  private static final String[] NAMES = {
    "write", "erase", "fault", "land", "place", "flow", "way", "blade", "rim", "measure", "of", "off", "can", "named",
    "strike", "undo", "span", "heirloom", "from", "chain", "legs", "reach", "boats", "sea", "next", "counts", "miss",
    "law", "dated", "learnt", "count"};

  private final Random random;
  private final BlackGlass glass = new BlackGlass();
  private final Naive naive = new Naive();
  private final List<String> calls = new ArrayList<>();
  // How freely YEARS and numbers are drawn, so that runs with a way and without one are both common.
  private final boolean tight;
  private final boolean crowded;
  // FLOWS that are unlike each other, so that BLADES are NAMED.
  private final boolean apart;
  private static int wrong = 0;
  // How often each call answered a number of its own (0 or more): a run in which none does tests little.
  private static final TreeMap<String, Integer> told = new TreeMap<>();

  private NaiveTest(int seed) {
    random = new Random(seed);
    tight = seed % 3 == 0;
    crowded = seed % 2 == 0;
    apart = seed % 7 < 2;
  }

  public static void main(String[] args) {
    for (int seed = 1; seed <= RUNS; seed++) new NaiveTest(seed).run(seed);
    for (String name : NAMES) {
      if (told.getOrDefault(name, 0) < RUNS / 10) {
        wrong++;
        System.out.println(name + " answered too few numbers of its own: " + told.getOrDefault(name, 0));
      }
    }
    System.out.println(wrong == 0 ? "all answers are as the slow one's" : wrong + " answers differ; " + told);
    if (wrong != 0) System.exit(1);
  }

  private void run(int seed) {
    int most = seed % 5 == 0 ? CALLS : 60 + random.nextInt(120);
    for (int i = 0; i < most && wrong < MOST_TOLD; i++) {
      if (i < 40 && chance(60)) { tellText(); continue; }
      if (i < 60 && chance(40)) { call(7); continue; }
      call(random.nextInt(NAMES.length));
    }
  }

  private boolean chance(int percent) { return random.nextInt(100) < percent; }
  private int pick(int a, int b) { return a + random.nextInt(b - a + 1); }

  /** Mostly a number from a to b; now and then one at or beyond the ends, or any int. */
  private int near(int a, int b) {
    int roll = random.nextInt(60);
    if (roll == 0) return a - 1;
    if (roll == 1) return b + 1;
    if (roll == 2) return a;
    if (roll == 3) return b;
    if (roll == 4 && chance(30)) return random.nextInt();
    return pick(a, b);
  }

  private int blade() { return near(0, Math.max(0, naive.blades.size() - 1)); }
  private int flow() {
    for (int i = 0; i < 4; i++) {
      int f = pick(0, 8);
      if (naive.told(f)) return f;
    }
    return near(0, 8);
  }
  private int places() { return crowded ? near(0, 3) : near(0, 9); }
  private int year() { return chance(50) ? near(0, 9999) : chance(50) ? 1000 * pick(0, 9) : pick(2000, 2010); }

  private int numbers() {
    int f = flow();
    if (!naive.told(f) || chance(10)) return chance(20) ? random.nextInt() : pick(0, 999) | pick(0, 999) << 10 | pick(0, 999) << 20;
    int all = 0;
    for (int i = 0; i < 3; i++) {
      int n = naive.flows[f][2 + i] + pick(-12, 12);
      all |= Math.max(0, Math.min(999, n)) << 10 * i;
    }
    return chance(2) ? all | 1 << 30 : all;
  }

  // ---- texts

  private void tellText() {
    StringBuilder text = new StringBuilder();
    int lines = chance(80) ? pick(1, 5) : pick(6, 9);
    for (int i = 0; i < lines; i++) {
      if (i > 0) text.append(blank(30)).append(';').append(blank(30));
      text.append(line());
    }
    if (chance(15)) spoil(text);
    if (text.length() > 200) text.setLength(pick(150, 200));
    if (chance(85)) check("erase()", glass.erase(), naive.erase());
    for (int at = 0; at < text.length(); at += 8) {
      int n = Math.min(8, text.length() - at);
      long bytes = chance(50) ? 0 : n == 8 ? 0 : random.nextLong() << 8 * n;
      for (int i = 0; i < n; i++) bytes |= (long) (text.charAt(at + i) & 255) << 8 * i;
      check("write(" + bytes + "L, " + n + ")", glass.write(bytes, n), naive.write(bytes, n));
    }
    check("fault()", glass.fault(), naive.fault());
    check("land()", glass.land(), naive.land());
  }

  private String blank(int percent) { return chance(percent) ? chance(20) ? "  " : " " : ""; }

  private String line() {
    int place = crowded ? pick(0, 3) : pick(0, 9);
    int other = crowded ? pick(0, 4) : pick(0, 9);
    switch (pick(0, 9)) {
      case 0:
      case 1: {
        int from = tight ? pick(1900, 2100) : chance(40) ? 0 : pick(0, 9000);
        int to = tight ? pick(1990, 2200) : chance(40) ? 9999 : pick(0, 9999);
        return join("place", place, chance(90) ? Math.min(from, to) : from, chance(90) ? Math.max(from, to) : to, chance(50) ? pick(1, 40) : near(1, 999));
      }
      case 2:
      case 3:
      case 4: {
        int base = apart ? pick(0, 999) : pick(100, 140);
        return join("flow", near(0, 8), place, tight ? pick(1800, 2100) : chance(70) ? pick(0, 3000) : year(), base, pick(100, 120), pick(100, 120), chance(90) ? pick(0, 12) : near(0, 99));
      }
      case 5:
      case 6: return join("land", place, other, chance(15) ? 0 : near(0, 999));
      case 7:
      case 8: return join("boat", place, other, chance(15) ? 0 : chance(50) ? pick(1, 30) : near(0, 999));
      default: return chance(50) ? join("near", chance(90) ? pick(5, 30) : near(0, 999)) : join("far", chance(90) ? pick(5, 40) : near(0, 999));
    }
  }

  private String join(String word, int... numbers) {
    StringBuilder line = new StringBuilder(word);
    for (int i = 0; i < numbers.length; i++) {
      if (i > 0 || chance(70)) line.append(' ');
      line.append(blank(10));
      if (chance(5)) line.append('0');
      line.append(numbers[i]);
    }
    return line.toString();
  }

  private void spoil(StringBuilder text) {
    for (int i = pick(1, 2); i > 0 && text.length() > 0; i--) {
      int at = random.nextInt(text.length());
      int roll = pick(0, 4);
      if (roll == 0) text.deleteCharAt(at);
      else if (roll == 1) text.setLength(at);
      else if (roll == 2) text.insert(at, (char) pick(0, 255));
      else if (roll == 3) text.setCharAt(at, " ;09az".charAt(pick(0, 5)));
      else text.insert(at, text.charAt(at));
    }
  }

  // ---- calls

  private void call(int which) {
    String name = NAMES[which];
    int before = calls.size();
    if (which < 7) callLand(which);
    else if (which < 16) callBlades(which);
    else if (which < 25) callYears(which);
    else callCounts(which);
    if (calls.size() == before) throw new IllegalStateException(name);
  }

  private void callLand(int which) {
    switch (which) {
      case 0: {
        long bytes = chance(50) ? random.nextLong() : 0x2020202020202020L;
        int n = near(1, 8);
        check("write(" + bytes + "L, " + n + ")", glass.write(bytes, n), naive.write(bytes, n));
        break;
      }
      case 1: check("erase()", glass.erase(), naive.erase()); break;
      case 2: check("fault()", glass.fault(), naive.fault()); break;
      case 3: if (chance(80)) tellText(); else check("land()", glass.land(), naive.land()); break;
      case 4: { int p = places(), w = near(0, 2); check("place(" + p + ", " + w + ")", glass.place(p, w), naive.place(p, w)); break; }
      case 5: { int f = flow(), w = near(0, 5); check("flow(" + f + ", " + w + ")", glass.flow(f, w), naive.flow(f, w)); break; }
      default: { int a = places(), b = places(), w = near(0, 1); check("way(" + a + ", " + b + ", " + w + ")", glass.way(a, b, w), naive.way(a, b, w)); }
    }
  }

  private void callBlades(int which) {
    int b = blade();
    switch (which) {
      case 7: {
        int p = places(), n = numbers(), e = chance(70) ? pick(1, 9) : near(1, 99), s = chance(70) ? pick(1, 30) : near(1, 999), l = chance(70) ? pick(0, 3) : near(0, 99);
        check("blade(" + p + ", " + n + ", " + e + ", " + s + ", " + l + ")", glass.blade(p, n, e, s, l), naive.blade(p, n, e, s, l));
        break;
      }
      case 8: {
        int r = rimFor(b), s = chance(60) ? 0 : chance(90) ? pick(0, Math.max(1, Math.min(r, 1000))) : near(1, 999);
        check("rim(" + b + ", " + r + ", " + s + ")", glass.rim(b, r, s), naive.rim(b, r, s));
        break;
      }
      case 9: {
        int n = numbers(), e = chance(70) ? pick(1, 9) : near(1, 99);
        check("measure(" + b + ", " + n + ", " + e + ")", glass.measure(b, n, e), naive.measure(b, n, e));
        break;
      }
      case 10: { int w = near(0, 9); check("of(" + b + ", " + w + ")", glass.of(b, w), naive.of(b, w)); break; }
      case 11: { int f = flow(); check("off(" + b + ", " + f + ")", glass.off(b, f), naive.off(b, f)); break; }
      case 12: check("can(" + b + ")", glass.can(b), naive.can(b)); break;
      case 13: check("named(" + b + ")", glass.named(b), naive.named(b)); break;
      case 14: { int f = blade(); check("strike(" + b + ", " + f + ")", glass.strike(b, f), naive.strike(b, f)); break; }
      default: check("undo(" + b + ")", glass.undo(b), naive.undo(b));
    }
  }

  /** A RIM that tells of YEARS near the middle of all, so that there often is a way. */
  private int rimFor(int b) {
    if (!naive.has(b) || chance(20)) return near(0, 999);
    if (chance(40)) return 0;
    int warmth = naive.places[naive.blades.get(b).place][2];
    int ago = tight ? pick(7800, 8200) : pick(0, 10500);
    int rim = (int) Math.sqrt((double) ago * warmth) + pick(-2, 2);
    return Math.max(0, Math.min(999, rim));
  }

  private void callYears(int which) {
    int b = blade();
    switch (which) {
      case 16: { int w = near(0, 5); check("span(" + b + ", " + w + ")", glass.span(b, w), naive.span(b, w)); break; }
      case 17: check("heirloom(" + b + ")", glass.heirloom(b), naive.heirloom(b)); break;
      case 18: check("from(" + b + ")", glass.from(b), naive.from(b)); break;
      case 19: { int w = chance(60) ? pick(-2, 3) : near(-3, 12); check("chain(" + w + ")", glass.chain(w), naive.chain(w)); break; }
      case 20: {
        int f = flow(), y = year(), w = near(0, 1);
        boolean boats = chance(60);
        check("legs(" + b + ", " + f + ", " + y + ", " + boats + ", " + w + ")", glass.legs(b, f, y, boats, w), naive.legs(b, f, y, boats, w));
        break;
      }
      case 21: {
        int f = flow(), w = near(0, 1);
        boolean boats = chance(60);
        check("reach(" + b + ", " + f + ", " + boats + ", " + w + ")", glass.reach(b, f, boats, w), naive.reach(b, f, boats, w));
        break;
      }
      case 22: check("boats()", glass.boats(), naive.boats()); break;
      case 23: check("sea()", glass.sea(), naive.sea()); break;
      default: check("next()", glass.next(), naive.next());
    }
  }

  private void callCounts(int which) {
    int b = blade(), f = flow(), p = places();
    switch (which) {
      case 25: {
        int all = near(1, 999), many = chance(90) ? pick(0, Math.max(0, Math.min(all, 999))) : near(0, 999);
        check("counts(" + p + ", " + f + ", " + many + ", " + all + ")", glass.counts(p, f, many, all), naive.counts(p, f, many, all));
        break;
      }
      case 26: { int l = near(0, 2), q = near(1, 99); check("miss(" + f + ", " + l + ", " + q + ")", glass.miss(f, l, q), naive.miss(f, l, q)); break; }
      case 27: { int w = near(0, 1); check("law(" + f + ", " + w + ")", glass.law(f, w), naive.law(f, w)); break; }
      case 28: {
        int y = datedFor(b);
        check("dated(" + b + ", " + y + ")", glass.dated(b, y), naive.dated(b, y));
        break;
      }
      case 29: { int w = near(0, 1); check("learnt(" + p + ", " + w + ")", glass.learnt(p, w), naive.learnt(p, w)); break; }
      default: { int w = near(0, 5); check("count(" + w + ")", glass.count(w), naive.count(w)); }
    }
  }

  private int datedFor(int b) {
    if (!naive.has(b) || chance(20)) return chance(30) ? 0 : chance(20) ? 9999 : near(-1, 9999);
    Naive.Blade it = naive.blades.get(b);
    int ago = it.rim * it.rim / (chance(50) ? 50 : naive.places[it.place][2]);
    return Math.max(-1, 9999 - ago + pick(-3, 3)) > 9999 ? 9999 : Math.max(-1, 9999 - ago + pick(-3, 3));
  }

  private void check(String call, int got, int due) {
    calls.add(call);
    if (due >= 0) told.merge(call.substring(0, call.indexOf('(')), due > 0 ? 1 : 0, Integer::sum);
    if (got != due && wrong++ < MOST_TOLD) {
      System.out.println(String.join("; ", calls) + " answered " + got + ", due is " + due);
    }
  }
}
