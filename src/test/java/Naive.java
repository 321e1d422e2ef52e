import java.util.ArrayList;
import java.util.Arrays;
import java.util.HashMap;
import java.util.List;
import java.util.Map;

/** A slow second writing of the document, which tries things one by one where BlackGlass reckons. */
final class Naive {
  static final int NONE = -1, UNKNOWN = -2, OUTSIDE = -3, NOT = -4, FULL = -5;
  static final int FAR_AWAY = 1 << 20;

  static final class Blade {
    int place, error, size, layer, rim, second, from = NONE, dated = NONE;
    int[] numbers = new int[3];
  }

  final StringBuilder text = new StringBuilder();
  final int[][] places = new int[10][];
  final int[][] flows = new int[9][];
  final int[][][] ways = new int[2][10][10];
  final int[] bounds = {20, 30};
  final List<Blade> blades = new ArrayList<>();
  final Map<Integer, int[]> counts = new HashMap<>();

  Naive() {
    for (int p = 0; p < 10; p++) places[p] = new int[] {0, 9999, 100};
  }

  static boolean in(int x, int a, int b) { return a <= x && x <= b; }
  boolean place(int p) { return in(p, 0, 9); }
  boolean told(int f) { return in(f, 0, 8) && flows[f] != null; }
  boolean has(int b) { return in(b, 0, blades.size() - 1); }

  // ---- the land

  int write(long bytes, int n) {
    if (!in(n, 1, 8)) return OUTSIDE;
    if (text.length() + n > 200) return FULL;
    for (int i = 0; i < n; i++) text.append((char) (bytes >> 8 * i & 255));
    return text.length();
  }

  int erase() {
    int had = text.length();
    text.setLength(0);
    return had;
  }

  /** A TOKEN's first byte and its signs. */
  record Token(int at, String signs) { }

  List<Token> tokens() {
    List<Token> all = new ArrayList<>();
    java.util.regex.Matcher m = java.util.regex.Pattern.compile("[a-z]+|[0-9]+|[^ ]", java.util.regex.Pattern.DOTALL).matcher(text);
    while (m.find()) all.add(new Token(m.start(), m.group()));
    return all;
  }

  /** The FAULT; the lines that were whole ahead of it go into 'lines' as {kind, numbers ..}. */
  int parse(List<int[]> lines) {
    List<Token> all = tokens();
    int i = 0;
    while (true) {
      if (i == all.size()) return text.length();
      int kind = Arrays.asList("place", "flow", "land", "boat", "near", "far").indexOf(all.get(i).signs());
      if (kind < 0) return all.get(i).at();
      i++;
      int[][] limits = switch (kind) {
        case 0 -> new int[][] {{0, 9}, {0, 9999}, {0, 9999}, {1, 999}};
        case 1 -> new int[][] {{0, 8}, {0, 9}, {0, 9999}, {0, 999}, {0, 999}, {0, 999}, {0, 99}};
        case 2, 3 -> new int[][] {{0, 9}, {0, 9}, {0, 999}};
        default -> new int[][] {{0, 999}};
      };
      int[] line = new int[limits.length + 1];
      line[0] = kind;
      for (int k = 0; k < limits.length; k++, i++) {
        if (i == all.size()) return text.length();
        Token t = all.get(i);
        if (!t.signs().matches("[0-9]{1,4}")) return t.at();
        int v = Integer.parseInt(t.signs());
        if (!in(v, limits[k][0], limits[k][1])) return t.at();
        if (kind == 0 && k == 2 && v < line[2]) return t.at();
        if ((kind == 2 || kind == 3) && k == 1 && v == line[1]) return t.at();
        line[k + 1] = v;
      }
      lines.add(line);
      if (i == all.size()) return NONE;
      if (!all.get(i).signs().equals(";") || lines.size() == 8) return all.get(i).at();
      i++;
    }
  }

  int fault() { return parse(new ArrayList<>()); }

  int land() {
    List<int[]> lines = new ArrayList<>();
    if (parse(lines) != NONE) return NOT;
    for (int[] l : lines) {
      if (l[0] == 0) places[l[1]] = new int[] {l[2], l[3], l[4]};
      else if (l[0] == 1) flows[l[1]] = Arrays.copyOfRange(l, 2, 8);
      else if (l[0] <= 3) { ways[l[0] - 2][l[1]][l[2]] = l[3]; ways[l[0] - 2][l[2]][l[1]] = l[3]; }
      else bounds[l[0] - 4] = l[1];
    }
    text.setLength(0);
    return lines.size();
  }

  int place(int p, int what) { return !place(p) ? UNKNOWN : !in(what, 0, 2) ? OUTSIDE : places[p][what]; }
  int flow(int f, int what) { return !told(f) ? UNKNOWN : !in(what, 0, 5) ? OUTSIDE : flows[f][what]; }
  int way(int a, int b, int what) {
    return !place(a) || !place(b) || a == b ? UNKNOWN : !in(what, 0, 1) ? OUTSIDE : ways[what][a][b];
  }

  // ---- blades

  static boolean measured(int numbers, int error) {
    return in(error, 1, 99) && (numbers & 1023) < 1000 && (numbers >> 10 & 1023) < 1000 && (numbers >> 20 & 1023) < 1000;
  }

  int blade(int place, int numbers, int error, int size, int layer) {
    if (!place(place)) return UNKNOWN;
    if (!measured(numbers, error) || !in(size, 1, 999) || !in(layer, 0, 99)) return OUTSIDE;
    if (blades.size() == 12) return FULL;
    Blade b = new Blade();
    b.place = place;
    b.size = size;
    b.layer = layer;
    blades.add(b);
    measure(blades.size() - 1, numbers, error);
    return blades.size() - 1;
  }

  int rim(int blade, int rim, int second) {
    if (!has(blade)) return UNKNOWN;
    if (!in(rim, 0, 999) || !in(second, 0, 999) || second != 0 && second >= rim) return OUTSIDE;
    blades.get(blade).rim = rim;
    blades.get(blade).second = second;
    return 1;
  }

  int measure(int blade, int numbers, int error) {
    if (!has(blade)) return UNKNOWN;
    if (!measured(numbers, error)) return OUTSIDE;
    Blade b = blades.get(blade);
    int had = b.error;
    b.error = error;
    for (int i = 0; i < 3; i++) b.numbers[i] = numbers >> 10 * i & 1023;
    return had;
  }

  int of(int blade, int what) {
    if (!has(blade)) return UNKNOWN;
    Blade b = blades.get(blade);
    int[] all = {b.place, b.numbers[0], b.numbers[1], b.numbers[2], b.error, b.size, b.layer, b.rim, b.second, b.from};
    return in(what, 0, 9) ? all[what] : OUTSIDE;
  }

  int off(int blade, int flow) {
    if (!has(blade) || !told(flow)) return UNKNOWN;
    Blade b = blades.get(blade);
    int most = 0;
    for (int i = 0; i < 3; i++) {
      most = Math.max(most, 10 * Math.abs(b.numbers[i] - flows[flow][2 + i]) / (b.error + flows[flow][5]));
    }
    return most;
  }

  int can(int blade) {
    if (!has(blade)) return UNKNOWN;
    int bits = 0;
    for (int f = 0; f < 9; f++) if (told(f) && off(blade, f) <= bounds[0]) bits += 1 << f;
    return bits;
  }

  int named(int blade) {
    if (!has(blade)) return UNKNOWN;
    for (int f = 0; f < 9; f++) {
      if (can(blade) != 1 << f) continue;
      boolean clear = true;
      for (int g = 0; g < 9; g++) clear &= g == f || !told(g) || off(blade, g) >= bounds[1];
      if (clear) return f;
    }
    return NONE;
  }

  boolean struckFrom(int blade, int other) {
    for (int up = blades.get(blade).from; up != NONE; up = blades.get(up).from) if (up == other) return true;
    return false;
  }

  int strike(int blade, int from) {
    if (!has(blade) || !has(from) || blade == from) return UNKNOWN;
    if (blades.get(blade).from != NONE || struckFrom(from, blade)) return NOT;
    blades.get(blade).from = from;
    return 1;
  }

  int undo(int blade) {
    if (!has(blade)) return UNKNOWN;
    int had = blades.get(blade).from;
    blades.get(blade).from = NONE;
    return had;
  }

  // ---- years

  /** Least and greatest of each YEAR (3 a BLADE) by going over all pairs until nothing moves; null: no way. */
  int[][] spans() {
    int n = blades.size();
    int[] lo = new int[3 * n], hi = new int[3 * n];
    Arrays.fill(hi, 9999);
    List<int[]> notAhead = new ArrayList<>();
    for (int i = 0; i < n; i++) {
      Blade b = blades.get(i);
      notAhead.add(new int[] {3 * i, 3 * i + 2});
      if (b.second > 0) {
        notAhead.add(new int[] {3 * i, 3 * i + 1});
        notAhead.add(new int[] {3 * i + 1, 3 * i + 2});
      }
      if (b.from != NONE) notAhead.add(new int[] {3 * b.from, 3 * i});
      for (int j = 0; j < n; j++) {
        Blade c = blades.get(j);
        if (c.place == b.place && c.layer > b.layer) notAhead.add(new int[] {3 * j + 2, 3 * i + 2});
      }
      int open = can(i) == 0 ? 0 : 9999;
      for (int f = 0; f < 9; f++) if ((can(i) >> f & 1) == 1) open = Math.min(open, flows[f][1]);
      lo[3 * i] = open;
      lo[3 * i + 2] = places[b.place][0];
      hi[3 * i + 2] = places[b.place][1];
      int[] rims = {b.rim, b.second};
      for (int k = 0; k < 2; k++) {
        if (rims[k] == 0) continue;
        lo[3 * i + k] = Math.max(lo[3 * i + k], rimFrom(rims[k], places[b.place][2]));
        hi[3 * i + k] = Math.min(hi[3 * i + k], rimTo(rims[k], places[b.place][2]));
      }
    }
    for (boolean moved = true; moved; ) {
      moved = false;
      for (int[] e : notAhead) {
        if (lo[e[1]] < lo[e[0]]) { lo[e[1]] = lo[e[0]]; moved = true; }
        if (hi[e[0]] > hi[e[1]]) { hi[e[0]] = hi[e[1]]; moved = true; }
      }
    }
    for (int i = 0; i < 3 * n; i++) if (lo[i] > hi[i]) return null;
    return new int[][] {lo, hi};
  }

  static int rimFrom(int rim, int warmth) { return Math.max(0, 9999 - (rim + 1) * (rim + 1) / warmth); }
  static int rimTo(int rim, int warmth) { return Math.max(0, 9999 - (rim - 1) * (rim - 1) / warmth); }

  int span(int blade, int what) {
    if (!has(blade)) return UNKNOWN;
    if (!in(what, 0, 5)) return OUTSIDE;
    int[][] s = spans();
    if (s == null || what / 2 == 1 && blades.get(blade).second == 0) return NONE;
    return s[what % 2][3 * blade + what / 2];
  }

  int heirloom(int blade) {
    if (!has(blade)) return UNKNOWN;
    int[][] s = spans();
    if (s == null) return NONE;
    int last = 3 * blade + (blades.get(blade).second > 0 ? 1 : 0), laid = 3 * blade + 2;
    return s[1][last] < s[0][laid] ? 2 : s[0][last] < s[1][laid] ? 1 : 0;
  }

  int from(int blade) {
    if (!has(blade)) return UNKNOWN;
    int bits = 0;
    for (int o = 0; o < blades.size(); o++) if (may(blade, o)) bits += 1 << o;
    return bits;
  }

  boolean may(int blade, int other) {
    Blade b = blades.get(blade);
    if (other == blade || (can(blade) & can(other)) == 0 || blades.get(other).size <= b.size) return false;
    if (struckFrom(other, blade)) return false;
    int own = b.from;
    b.from = other;
    boolean way = spans() != null;
    b.from = own;
    return way;
  }

  List<Integer> best;

  void tryRows(List<Integer> row, int[] from) {
    if (row.size() > best.size()) best = new ArrayList<>(row);
    for (int b = 0; b < blades.size(); b++) {
      if (row.isEmpty() || (from[b] >> row.get(row.size() - 1) & 1) == 1) {
        row.add(b);
        tryRows(row, from);
        row.remove(row.size() - 1);
      }
    }
  }

  int chain(int what) {
    if (what < -2) return OUTSIDE;
    int[] from = new int[blades.size()];
    for (int b = 0; b < from.length; b++) from[b] = from(b);
    best = new ArrayList<>();
    tryRows(new ArrayList<>(), from);
    if (what == -1) return best.size();
    if (what >= 0) return what < best.size() ? best.get(what) : NONE;
    return best.isEmpty() ? 0 : blades.get(best.get(0)).size - blades.get(best.get(best.size() - 1)).size;
  }

  // ---- ways

  int live(int year) {
    int bits = 0;
    for (int p = 0; p < 10; p++) if (in(year, places[p][0], places[p][1])) bits += 1 << p;
    return bits;
  }

  int least(int start, int goal, int live, boolean boats, boolean miles) {
    int[] d = new int[10];
    Arrays.fill(d, FAR_AWAY);
    d[start] = 0;
    for (int round = 0; round < 10; round++)
      for (int by = 0; by < (boats ? 2 : 1); by++)
        for (int a = 0; a < 10; a++)
          for (int b = 0; b < 10; b++)
            if (ways[by][a][b] > 0 && (live >> b & 1) == 1) d[b] = Math.min(d[b], d[a] + (miles ? ways[by][a][b] : 1));
    return d[goal] >= FAR_AWAY ? NONE : d[goal];
  }

  int legs(int blade, int flow, int year, boolean boats, int what) {
    if (!has(blade) || !told(flow)) return UNKNOWN;
    if (!in(year, 0, 9999) || !in(what, 0, 1)) return OUTSIDE;
    return least(flows[flow][0], blades.get(blade).place, live(year), boats, what == 1);
  }

  int reach(int blade, int flow, boolean boats, int what) {
    if (!has(blade) || !told(flow)) return UNKNOWN;
    if (!in(what, 0, 1)) return OUTSIDE;
    int[][] s = spans();
    if (s == null) return NONE;
    int first = NONE, fewest = NONE, before = NONE;
    for (int y = Math.max(s[0][3 * blade], flows[flow][1]); y <= s[1][3 * blade + 2]; y++) {
      int live = live(y);
      if (live == before) continue;
      before = live;
      int legs = least(flows[flow][0], blades.get(blade).place, live, boats, false);
      if (legs == NONE) continue;
      if (first == NONE) first = y;
      if (fewest == NONE || legs < fewest) fewest = legs;
    }
    return what == 0 ? first : fewest;
  }

  int boats() {
    int bits = 0;
    for (int b = 0; b < blades.size(); b++) {
      boolean land = false, boat = false;
      for (int f = 0; f < 9; f++) {
        if ((can(b) >> f & 1) == 0) continue;
        land |= reach(b, f, false, 0) != NONE;
        boat |= reach(b, f, true, 0) != NONE;
      }
      if (!land && boat) bits += 1 << b;
    }
    return bits;
  }

  int sea() {
    int bits = boats(), least = NONE;
    for (int b = 0; b < blades.size(); b++) {
      if ((bits >> b & 1) == 1 && (least == NONE || span(b, 5) < least)) least = span(b, 5);
    }
    return least;
  }

  int next() {
    int best = NONE;
    for (int b = 0; b < blades.size(); b++) {
      int many = Integer.bitCount(can(b));
      if (many < 2) continue;
      int had = best == NONE ? 0 : Integer.bitCount(can(best));
      if (many > had || many == had && blades.get(b).error > blades.get(best).error) best = b;
    }
    return best;
  }

  // ---- counts, warmth

  int counts(int place, int flow, int many, int all) {
    if (!place(place) || !told(flow)) return UNKNOWN;
    if (!in(all, 1, 999) || !in(many, 0, all)) return OUTSIDE;
    counts.put(place * 100 + flow, new int[] {many, all});
    return 1;
  }

  int tells(int law, int p, int miles) {
    if (law == 2) return miles <= 10 * p ? 900 : 100;
    if (law == 1) return Math.max(0, 1000 - p * miles / 10);
    int share = 1000;
    for (int gone = 10 * p; gone <= miles; gone += 10 * p) share /= 2;
    return share;
  }

  int miss(int flow, int law, int p) {
    if (!told(flow)) return UNKNOWN;
    if (!in(law, 0, 2) || !in(p, 1, 99)) return OUTSIDE;
    int sum = 0;
    for (int place = 0; place < 10; place++) {
      int[] c = counts.get(place * 100 + flow);
      if (c == null) continue;
      int miles = least(flows[flow][0], place, 1023, true, true);
      if (miles != NONE) sum += Math.abs(1000 * c[0] / c[1] - tells(law, p, miles));
    }
    return sum;
  }

  int law(int flow, int what) {
    if (!told(flow)) return UNKNOWN;
    if (!in(what, 0, 1)) return OUTSIDE;
    int best = NONE, least = Integer.MAX_VALUE;
    for (int law = 0; law < 3; law++)
      for (int p = 1; p < 100; p++)
        if (miss(flow, law, p) < least) { least = miss(flow, law, p); best = 100 * law + p; }
    return what == 0 ? best : least;
  }

  int dated(int blade, int year) {
    if (!has(blade)) return UNKNOWN;
    if (year != NONE && !in(year, 0, 9999)) return OUTSIDE;
    blades.get(blade).dated = year;
    return 1;
  }

  int learnt(int place, int what) {
    if (!place(place)) return UNKNOWN;
    if (!in(what, 0, 1)) return OUTSIDE;
    int least = NONE, greatest = NONE;
    for (int w = 1; w <= 999; w++) {
      boolean any = false, all = true;
      for (Blade b : blades) {
        if (b.place != place || b.rim == 0 || b.dated == NONE) continue;
        any = true;
        all &= in(b.dated, rimFrom(b.rim, w), rimTo(b.rim, w));
      }
      if (!any || !all) continue;
      if (least == NONE) least = w;
      greatest = w;
    }
    return what == 0 ? least : greatest;
  }

  int count(int what) {
    int told = 0, strikes = 0;
    for (int f = 0; f < 9; f++) told += told(f) ? 1 : 0;
    for (Blade b : blades) strikes += b.from != NONE ? 1 : 0;
    int[] all = {told, text.length(), blades.size(), bounds[0], bounds[1], strikes};
    return in(what, 0, 5) ? all[what] : OUTSIDE;
  }
}
