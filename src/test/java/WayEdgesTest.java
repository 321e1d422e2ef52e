/** The sentences on WAYS, COUNTS and WARMTH that name a bound, each by itself; promises 22 to 32. */
public final class WayEdgesTest extends Sheet {
  public static void main(String[] args) {
    living();
    landAndBoat();
    fewestLegs();
    leastMiles();
    askingLegs();
    firstYear();
    fewestInAnyYear();
    askingReach();
    byBoat();
    seas();
    nexts();
    countsOfPlaces();
    milesToPlaces();
    sharesCut();
    gifts();
    carriers();
    market();
    misses();
    bestLaw();
    dates();
    learntOfOne();
    learntOfSeveral();
    counting();
    finish();
  }

  private static void living() {
    says("In a YEAR one goes by WAYS from PLACE to PLACE, each LIVE then, but the first");
    BlackGlass x = told(plainFlow(0, 0, 0) + ";land 0 1 3;land 1 2 4;place 0 5000 5000 1;place 1 10 20 1;place 2 12 22 1");
    plain(x, 2, 1, 0);
    plain(x, 1, 1, 0);
    plain(x, 0, 1, 0);
    int[][] years = {{9, NONE, NONE}, {10, 1, NONE}, {11, 1, NONE}, {12, 1, 2}, {20, 1, 2}, {21, NONE, NONE}, {22, NONE, NONE}};
    for (int[] y : years) {
      due(y[1], x.legs(1, 0, y[0], false, 0));
      due(y[2], x.legs(0, 0, y[0], false, 0));
      due(y[1] == NONE ? NONE : 3, x.legs(1, 0, y[0], false, 1));
      due(y[2] == NONE ? NONE : 7, x.legs(0, 0, y[0], false, 1));
    }
    // The last one, too, must be LIVE, at its own bounds.
    tell(x, "place 1 0 9999 1");
    due(NONE, x.legs(0, 0, 11, false, 0));
    due(2, x.legs(0, 0, 12, false, 0));
    due(2, x.legs(0, 0, 22, false, 0));
    due(NONE, x.legs(0, 0, 23, false, 0));
    // The first PLACE need not, be it the last as well.
    for (int year : new int[] {0, 4999, 5000, 5001, 9999}) {
      due(0, x.legs(2, 0, year, false, 0));
      due(0, x.legs(2, 0, year, true, 1));
    }
    // PLACES that are LIVE at first are so in the first and in the last YEAR.
    tell(x, "place 2 0 9999 1");
    due(2, x.legs(0, 0, 0, false, 0));
    due(2, x.legs(0, 0, 9999, false, 0));
    tell(x, "place 2 9999 9999 1");
    due(NONE, x.legs(0, 0, 9998, false, 0));
    due(7, x.legs(0, 0, 9999, false, 1));
    tell(x, "place 2 0 0 1");
    due(7, x.legs(0, 0, 0, false, 1));
    due(NONE, x.legs(0, 0, 1, false, 1));
    // PLACE 0 between, and at the end.
    BlackGlass y = told(plainFlow(0, 9, 0) + ";land 9 0 3;land 0 1 4;place 0 10 20 1");
    plain(y, 0, 1, 0);
    plain(y, 1, 1, 0);
    for (int year : new int[] {9, 10, 20, 21}) {
      boolean live = year >= 10 && year <= 20;
      due(live ? 3 : NONE, y.legs(0, 0, year, true, 1));
      due(live ? 1 : NONE, y.legs(0, 0, year, true, 0));
      due(live ? 7 : NONE, y.legs(1, 0, year, true, 1));
      due(live ? 2 : NONE, y.legs(1, 0, year, true, 0));
    }
  }

  private static void landAndBoat() {
    says("by LAND, or by LAND and BOAT");
    BlackGlass x = told(plainFlow(0, 0, 0) + ";land 0 1 5;boat 1 2 7;boat 0 3 9;land 3 4 2;land 0 4 20");
    for (int p = 0; p < 6; p++) plain(x, p, 1, 0);
    int[][] want = {{0, 0, 0, 0}, {1, 5, 1, 5}, {NONE, NONE, 2, 12}, {2, 22, 1, 9}, {1, 20, 1, 11}, {NONE, NONE, NONE, NONE}};
    for (int p = 0; p < 6; p++) {
      due(want[p][0], x.legs(p, 0, 7, false, 0));
      due(want[p][1], x.legs(p, 0, 7, false, 1));
      due(want[p][2], x.legs(p, 0, 7, true, 0));
      due(want[p][3], x.legs(p, 0, 7, true, 1));
    }
    // Both between the same two: the shorter one, whichever it is.
    tell(x, "boat 0 1 4");
    due(5, x.legs(1, 0, 7, false, 1));
    due(4, x.legs(1, 0, 7, true, 1));
    tell(x, "boat 0 1 6");
    due(5, x.legs(1, 0, 7, true, 1));
    tell(x, "land 1 0 0");
    due(NONE, x.legs(1, 0, 7, false, 1));
    due(6, x.legs(1, 0, 7, true, 1));
    tell(x, "boat 1 0 0");
    due(NONE, x.legs(1, 0, 7, true, 1));
    due(NONE, x.legs(1, 0, 7, true, 0));
  }

  private static String rowOfWays(String by, int miles, int from, int to) {
    StringBuilder text = new StringBuilder();
    for (int p = from; p < to; p++) text.append(p > from ? ";" : "").append(by).append(' ').append(p).append(' ').append(p + 1).append(' ').append(miles);
    return text.toString();
  }

  private static void fewestLegs() {
    says("the fewest WAYS from the PLACE of the FLOW to its own (0: there; none)");
    BlackGlass x = told(plainFlow(0, 0, 0) + ";" + rowOfWays("land", 999, 0, 5), rowOfWays("land", 999, 5, 9));
    for (int p = 0; p < 10; p++) plain(x, p, 1, 0);
    for (int p = 0; p < 10; p++) {
      due(p, x.legs(p, 0, 0, false, 0));
      due(999 * p, x.legs(p, 0, 9999, false, 1));
    }
    // One of nine is cut, from either end.
    tell(x, "land 0 1 0");
    due(0, x.legs(0, 0, 0, true, 0));
    for (int p = 1; p < 10; p++) due(NONE, x.legs(p, 0, 0, true, 0));
    tell(x, "land 0 1 1;land 8 9 0");
    due(8, x.legs(8, 0, 0, true, 0));
    due(NONE, x.legs(9, 0, 0, true, 0));
    // From the PLACE that the FLOW has now.
    tell(x, plainFlow(0, 9, 0));
    due(0, x.legs(9, 0, 0, true, 0));
    due(NONE, x.legs(0, 0, 0, true, 0));
    tell(x, "boat 9 0 3");
    due(1, x.legs(0, 0, 0, true, 0));
    due(9, x.legs(8, 0, 0, true, 0));
  }

  private static void leastMiles() {
    says("MILES: the least.");
    BlackGlass x = told(plainFlow(0, 0, 0) + ";land 0 9 100;land 0 1 33;land 1 2 33;land 2 9 33");
    plain(x, 9, 1, 0);
    due(1, x.legs(0, 0, 0, false, 0));
    due(99, x.legs(0, 0, 0, false, 1));
    tell(x, "land 2 9 34");
    due(100, x.legs(0, 0, 0, false, 1));
    tell(x, "land 2 9 35");
    due(100, x.legs(0, 0, 0, false, 1));
    // Over a PLACE that isn't LIVE one doesn't go, however short it is.
    tell(x, "land 2 9 1;place 1 1 2 1");
    due(100, x.legs(0, 0, 0, false, 1));
    due(67, x.legs(0, 0, 1, false, 1));
    due(1, x.legs(0, 0, 1, false, 0));
  }

  private static void askingLegs() {
    says("LEGS (what 0), MILES (1) in a YEAR, with BOATS or without; NONE. UNKNOWN; OUTSIDE.");
    BlackGlass x = told(plainFlow(0, 0, 5000) + ";" + plainFlow(8, 0, 0) + ";land 0 1 1");
    plain(x, 1, 1, 0);
    bounds(0, 9999, OUTSIDE, 1, y -> x.legs(0, 0, y, false, 0));
    bounds(0, 1, OUTSIDE, 1, w -> x.legs(0, 0, 7, false, w));
    bounds(0, 0, UNKNOWN, 1, b -> x.legs(b, 0, 7, false, 0));
    bounds(0, 0, UNKNOWN, 1, f -> x.legs(0, f, 7, false, 0));
    bounds(8, 8, UNKNOWN, 1, f -> x.legs(0, f, 7, true, 0));
    due(UNKNOWN, x.legs(1, 0, -1, false, 2));
    due(UNKNOWN, x.legs(0, 1, 10000, false, 2));
    due(UNKNOWN, x.legs(-1, -1, -1, false, -1));
    due(OUTSIDE, x.legs(0, 0, -1, true, 2));
    due(UNKNOWN, new BlackGlass().legs(0, 0, 0, false, 0));
    // Years ahead of OPEN, and of those in which it can have been STRUCK, may be asked for.
    due(1, x.legs(0, 0, 4999, false, 0));
  }

  private static void firstYear() {
    says("REACH: the first YEAR, from its earliest STRUCK (and the OPEN of that FLOW) to its latest LAID, in which there are such.");
    BlackGlass x = told(plainFlow(0, 0, 100) + ";land 0 1 1;land 1 2 1;place 2 50 700 1;place 1 50 99 1");
    plain(x, 2, 1, 0);
    due(NONE, x.reach(0, 0, false, 0));
    tell(x, "place 1 50 100 1");
    due(100, x.reach(0, 0, false, 0));
    tell(x, "place 1 101 101 1");
    due(101, x.reach(0, 0, false, 0));
    tell(x, "place 1 699 800 1");
    due(699, x.reach(0, 0, false, 0));
    tell(x, "place 1 700 800 1");
    due(700, x.reach(0, 0, false, 0));
    tell(x, "place 1 701 800 1");
    due(NONE, x.reach(0, 0, false, 0));
    due(NONE, x.reach(0, 0, true, 0));
    tell(x, "boat 0 2 1");
    due(100, x.reach(0, 0, true, 0));
    due(NONE, x.reach(0, 0, false, 0));
    // The OPEN of that FLOW, if it is later than the earliest of all.
    tell(x, "place 1 0 9999 1;" + plainFlow(8, 0, 99));
    due(99, x.reach(0, 8, false, 0));
    due(100, x.reach(0, 0, false, 0));
    tell(x, plainFlow(0, 0, 700));
    due(700, x.reach(0, 0, false, 0));
    tell(x, plainFlow(0, 0, 701));
    due(NONE, x.reach(0, 0, false, 0));
    due(99, x.reach(0, 8, false, 0));
    // The earliest STRUCK, if it is later than that OPEN; a FLOW that it can't be of.
    tell(x, "flow 5 0 0 900 900 900 0");
    due(99, x.reach(0, 5, false, 0));
    // Its own PLACE must be LIVE, too: from 50 on, from 150 on.
    tell(x, plainFlow(8, 0, 0) + ";place 2 50 700 1");
    due(50, x.reach(0, 8, false, 0));
    tell(x, "place 2 150 700 1");
    due(150, x.reach(0, 8, false, 0));
    // There already: in the first YEAR of all.
    tell(x, plainFlow(8, 2, 149));
    due(149, x.reach(0, 8, false, 0));
    tell(x, plainFlow(8, 2, 0) + ";place 2 0 0 1");
    due(0, x.reach(0, 8, false, 0));
    tell(x, plainFlow(8, 2, 9999) + ";flow 0 0 0 900 900 900 0;place 2 9999 9999 1");
    due(9999, x.reach(0, 8, false, 0));
  }

  private static void fewestInAnyYear() {
    says("COMES: the fewest LEGS in any YEAR of these.");
    BlackGlass x = told(plainFlow(0, 0, 100) + ";land 0 1 1;land 1 2 1;land 2 3 1;land 0 4 1;land 4 3 1;place 3 0 700 1");
    plain(x, 3, 1, 0);
    int[][] years = {{0, 99, 3}, {0, 100, 2}, {100, 100, 2}, {300, 300, 2}, {700, 700, 2}, {700, 9999, 2}, {701, 9999, 3}};
    for (int[] y : years) {
      tell(x, "place 4 " + y[0] + " " + y[1] + " 1");
      due(y[2], x.reach(0, 0, false, 1));
      due(100, x.reach(0, 0, false, 0));
    }
    tell(x, "boat 0 3 900");
    due(3, x.reach(0, 0, false, 1));
    due(1, x.reach(0, 0, true, 1));
    tell(x, "land 0 1 0");
    due(NONE, x.reach(0, 0, false, 1));
    tell(x, plainFlow(0, 3, 100));
    due(0, x.reach(0, 0, false, 1));
    tell(x, plainFlow(0, 3, 701));
    due(NONE, x.reach(0, 0, false, 1));
  }

  private static void askingReach() {
    says("REACH (what 0), COMES (1), with BOATS or without; NONE. UNKNOWN; OUTSIDE.");
    BlackGlass x = told(plainFlow(0, 0, 1) + ";" + plainFlow(8, 0, 1) + ";land 0 1 1");
    plain(x, 1, 1, 0);
    bounds(0, 1, OUTSIDE, 1, w -> x.reach(0, 0, false, w));
    bounds(0, 0, UNKNOWN, 1, b -> x.reach(b, 0, false, 0));
    bounds(0, 0, UNKNOWN, 1, f -> x.reach(0, f, true, 0));
    bounds(8, 8, UNKNOWN, 1, f -> x.reach(0, f, true, 1));
    due(UNKNOWN, x.reach(1, 0, false, 2));
    due(UNKNOWN, x.reach(0, 1, false, -1));
    due(UNKNOWN, new BlackGlass().reach(0, 0, true, 0));
    says("(NONE also, if there is no way for the YEARS.)");
    plain(x, 2, 1, 0);
    x.rim(1, 10, 0);
    tell(x, "place 2 0 9878 1");
    due(1, x.reach(0, 0, false, 0));
    tell(x, "place 2 0 9877 1");
    due(NONE, x.reach(0, 0, false, 0));
    due(NONE, x.reach(0, 0, true, 1));
    due(OUTSIDE, x.reach(0, 0, false, 2));
    due(UNKNOWN, x.reach(2, 0, false, 0));
    due(1, x.legs(0, 0, 1, false, 0));
  }

  private static void byBoat() {
    says("BOAT: it must have come by one, if of each FLOW it CAN BE of (one at least) there is in no such YEAR a way by LAND, but of some there is one with BOATS.");
    BlackGlass x = told("boat 0 1 1");
    plain(x, 1, 1, 0);
    // One FLOW at least.
    due(0, x.boats());
    tell(x, "flow 0 0 0 900 900 900 0");
    due(0, x.boats());
    tell(x, plainFlow(0, 0, 0));
    due(1, x.boats());
    // Of each one: a second FLOW by LAND, by no way, by BOAT, there.
    tell(x, plainFlow(1, 2, 0));
    due(1, x.boats());
    tell(x, "land 2 1 1");
    due(0, x.boats());
    tell(x, "land 2 1 0;boat 1 2 1");
    due(1, x.boats());
    tell(x, plainFlow(1, 1, 0));
    due(0, x.boats());
    // Of some: of none there is one with BOATS.
    tell(x, plainFlow(1, 3, 0) + ";boat 0 1 0;boat 1 2 0");
    due(0, x.boats());
    tell(x, "boat 1 3 1");
    due(1, x.boats());
    // In no such YEAR by LAND: over 4, LIVE up to just ahead of them, in the first, in the last, just behind.
    tell(x, plainFlow(0, 0, 100) + ";" + plainFlow(1, 3, 100) + ";land 0 4 1;land 4 1 1;place 1 0 700 1");
    int[][] years = {{0, 99, 1}, {0, 100, 0}, {400, 400, 0}, {700, 800, 0}, {701, 800, 1}};
    for (int[] y : years) {
      tell(x, "place 4 " + y[0] + " " + y[1] + " 1");
      due(y[2], x.boats());
    }
    // With BOATS in one YEAR of them only.
    tell(x, "boat 1 3 0;boat 3 5 1;boat 5 1 1");
    int[][] sails = {{0, 99, 0}, {100, 100, 1}, {700, 700, 1}, {701, 9999, 0}};
    for (int[] s : sails) {
      tell(x, "place 5 " + s[0] + " " + s[1] + " 1");
      due(s[2], x.boats());
    }
    says("BLADES that must have come by BOAT, by bits.");
    due(0, new BlackGlass().boats());
    BlackGlass y = told(plainFlow(0, 0, 0) + ";boat 0 1 1");
    for (int b = 0; b < 12; b++) plain(y, b % 2, 1, 0);
    due(0b101010101010, y.boats());
  }

  private static void seas() {
    says("SEA: the least of latest LAID of BLADES that must have come by BOAT.");
    BlackGlass x = told(plainFlow(0, 0, 0) + ";boat 0 1 1;boat 0 2 1;place 0 0 5 1;place 1 0 600 1;place 2 0 601 1");
    due(NONE, x.sea());
    plain(x, 0, 1, 0);
    due(NONE, x.sea());
    plain(x, 2, 1, 0);
    due(601, x.sea());
    plain(x, 1, 1, 0);
    due(600, x.sea());
    tell(x, "place 1 0 602 1");
    due(601, x.sea());
    tell(x, "land 0 2 1");
    due(602, x.sea());
    tell(x, "place 1 0 0 1");
    due(0, x.sea());
    tell(x, "place 1 9999 9999 1");
    due(9999, x.sea());
    BlackGlass first = told(plainFlow(0, 9, 0) + ";boat 9 0 1;place 0 0 77 1");
    plain(first, 0, 1, 0);
    due(77, first.sea());
    says("`int sea()`: SEA; NONE.");
    tell(x, "land 0 1 1");
    due(NONE, x.sea());
    tell(x, "land 0 1 0");
    due(9999, x.sea());
    // Without a way for the YEARS there is none.
    x.rim(0, 1, 0);
    due(NONE, x.sea());
  }

  private static void nexts() {
    says("NEXT to be measured: the BLADE that CAN BE of most FLOWS (2 at least), of several the one of the greatest ERROR, then the least; none.");
    BlackGlass x = told("flow 0 0 0 100 100 100 0;flow 4 0 0 104 100 100 0;flow 8 0 0 108 100 100 0;near 20");
    due(NONE, x.next());
    // Of none, of one, of two.
    x.blade(0, numbers(900, 900, 900), 2, 1, 0);
    due(0, x.can(0));
    due(NONE, x.next());
    x.measure(0, numbers(101, 100, 100), 1);
    due(1, x.can(0));
    due(NONE, x.next());
    x.measure(0, numbers(102, 100, 100), 1);
    due(17, x.can(0));
    due(0, x.next());
    // As many: of the greater ERROR, and of two of these the least.
    x.blade(0, numbers(106, 100, 100), 1, 1, 0);
    due(272, x.can(1));
    due(0, x.next());
    x.measure(1, numbers(107, 100, 100), 2);
    due(272, x.can(1));
    due(1, x.next());
    x.blade(0, numbers(101, 100, 100), 2, 1, 0);
    due(17, x.can(2));
    due(1, x.next());
    // More FLOWS count ahead of a greater ERROR.
    x.blade(0, numbers(104, 100, 100), 2, 1, 0);
    due(273, x.can(3));
    due(3, x.next());
    x.measure(0, numbers(112, 100, 100), 4);
    due(272, x.can(0));
    due(3, x.next());
    // Behind it one of fewer FLOWS and greater ERROR, then one of more.
    x.blade(0, numbers(112, 100, 100), 5, 1, 0);
    due(272, x.can(4));
    due(3, x.next());
    tell(x, "flow 1 0 0 104 100 100 0");
    due(275, x.can(3));
    x.blade(0, numbers(106, 100, 100), 1, 1, 0);
    due(274, x.can(5));
    due(3, x.next());
    x.measure(5, numbers(104, 100, 100), 3);
    due(5, x.next());
    x.measure(5, numbers(900, 900, 900), 1);
    x.measure(4, numbers(900, 900, 900), 1);
    tell(x, "flow 1 0 0 900 900 900 0");
    due(3, x.next());
    x.measure(3, numbers(500, 500, 500), 99);
    due(0, x.next());
    due(NONE, new BlackGlass().next());
  }

  /** The SHARE that stands for a PLACE 0 miles away, told by how much MARKET misses it. */
  private static int shareOf(int many, int all) {
    BlackGlass x = told(plainFlow(0, 0, 0));
    due(1, x.counts(0, 0, many, all));
    int byGifts = x.miss(0, 0, 1);
    return 1000 - byGifts;
  }

  private static void countsOfPlaces() {
    says("COUNTS of a PLACE of a FLOW (instead of those that were): 1. UNKNOWN; OUTSIDE: all (1 .. 999), many (0 .. all).");
    BlackGlass x = told(plainFlow(0, 0, 0), plainFlow(8, 0, 0));
    bounds(1, 999, OUTSIDE, 1, all -> x.counts(0, 0, 0, all));
    bounds(0, 999, OUTSIDE, 1, many -> x.counts(0, 0, many, 999));
    bounds(0, 1, OUTSIDE, 1, many -> x.counts(0, 0, many, 1));
    bounds(0, 500, OUTSIDE, 1, many -> x.counts(0, 0, many, 500));
    bounds(0, 9, UNKNOWN, 1, p -> x.counts(p, 0, 1, 1));
    bounds(0, 0, UNKNOWN, 1, f -> x.counts(0, f, 1, 1));
    bounds(8, 8, UNKNOWN, 1, f -> x.counts(0, f, 1, 1));
    due(OUTSIDE, x.counts(0, 0, 0, 0));
    due(OUTSIDE, x.counts(0, 0, -1, -1));
    due(OUTSIDE, x.counts(0, 0, 1000, 1000));
    due(OUTSIDE, x.counts(0, 0, Integer.MIN_VALUE, Integer.MAX_VALUE));
    due(UNKNOWN, x.counts(10, 0, 5, 4));
    due(UNKNOWN, x.counts(0, 1, 0, 0));
    due(UNKNOWN, x.counts(10, 9, 0, 0));
    // Instead of those that were; those of another FLOW and of another PLACE stay.
    BlackGlass y = told(plainFlow(0, 0, 0), plainFlow(8, 0, 0), "land 0 9 1");
    y.counts(0, 0, 9, 10);
    y.counts(0, 8, 8, 10);
    due(0, y.miss(0, 2, 1));
    due(100, y.miss(8, 2, 1));
    y.counts(0, 0, 7, 10);
    due(200, y.miss(0, 2, 1));
    due(100, y.miss(8, 2, 1));
    y.counts(9, 0, 6, 10);
    due(200 + 300, y.miss(0, 2, 1));
    due(OUTSIDE, y.counts(9, 0, 10, 9));
    due(200 + 300, y.miss(0, 2, 1));
    y.counts(9, 0, 0, 1);
    due(200 + 900, y.miss(0, 2, 1));
  }

  private static void milesToPlaces() {
    says("MILES to it in YEAR 9999's WAYS (all PLACES counting as LIVE; by LAND and BOAT).");
    // No PLACE is LIVE in 9999, and the FLOW isn't OPEN but then.
    BlackGlass x = told(plainFlow(0, 0, 9999) + ";place 0 0 0 1;place 1 0 0 1;place 2 0 9998 1;land 0 1 6;boat 1 2 4;land 0 2 11");
    x.counts(2, 0, 0, 1);
    due(900, x.miss(0, 2, 1));
    tell(x, "boat 1 2 5");
    due(100, x.miss(0, 2, 1));
    tell(x, "land 0 2 10");
    due(900, x.miss(0, 2, 1));
    tell(x, "land 0 2 0;boat 1 2 0");
    due(0, x.miss(0, 2, 1));
    tell(x, "boat 0 2 10");
    due(900, x.miss(0, 2, 1));
    // From the PLACE that the FLOW has now; there it is 0.
    tell(x, plainFlow(0, 2, 9999));
    due(1000, x.miss(0, 1, 99));
    // The farthest: nine WAYS of 999.
    BlackGlass y = told(plainFlow(0, 0, 0) + ";" + rowOfWays("land", 999, 0, 5), rowOfWays("boat", 999, 5, 9));
    y.counts(9, 0, 0, 1);
    due(0, y.miss(0, 0, 1));
    due(0, y.miss(0, 1, 99));
    due(101, y.miss(0, 1, 1));
    due(100, y.miss(0, 2, 99));
    // 8991 by 990 is 9.
    due(1, y.miss(0, 0, 99));
  }

  private static void sharesCut() {
    says("SHARE: 1000 times those by all, cut.");
    due(0, shareOf(0, 1));
    due(1000, shareOf(1, 1));
    due(333, shareOf(1, 3));
    due(666, shareOf(2, 3));
    due(0, shareOf(0, 999));
    due(1, shareOf(1, 999));
    due(998, shareOf(998, 999));
    due(1000, shareOf(999, 999));
    due(142, shareOf(1, 7));
    due(857, shareOf(6, 7));
  }

  /** What a LAW tells for so many miles: the MISS where nothing was found. */
  private static int tells(int law, int p, int miles) {
    BlackGlass x = told(plainFlow(0, 0, 0));
    int place = 0, left = miles;
    for (int next = 1; left > 0; next++) {
      int leg = Math.min(999, left);
      tell(x, "boat " + place + " " + next + " " + leg);
      place = next;
      left -= leg;
    }
    x.counts(place, 0, 0, 1);
    return x.miss(0, law, p);
  }

  private static void gifts() {
    says("0 GIFTS (p 1 .. 99): 1000 halved (cut) as often as 10 p goes into the MILES");
    int[] halved = {1000, 500, 250, 125, 62, 31, 15, 7, 3, 1, 0, 0};
    for (int p : new int[] {1, 2, 50, 80}) {
      for (int often = 0; often < 12 && 10 * p * (often + 1) <= 8991; often++) {
        due(halved[often], tells(0, p, 10 * p * often));
        due(halved[often], tells(0, p, 10 * p * often + 1));
        due(halved[often], tells(0, p, 10 * p * (often + 1) - 1));
      }
    }
    due(1000, tells(0, 99, 989));
    due(500, tells(0, 99, 990));
    due(500, tells(0, 99, 991));
    // As often as there are bits in an int, and more often.
    for (int miles : new int[] {309, 310, 319, 320, 329, 330, 639, 640, 650, 5120, 8991}) due(0, tells(0, 1, miles));
  }

  private static void carriers() {
    says("1 CARRIERS: 1000 less (p times the MILES by 10, cut), 0 at least");
    due(1000, tells(1, 1, 0));
    due(1000, tells(1, 1, 9));
    due(999, tells(1, 1, 10));
    due(999, tells(1, 1, 19));
    due(998, tells(1, 1, 20));
    due(1000, tells(1, 99, 0));
    due(991, tells(1, 99, 1));
    due(5, tells(1, 50, 199));
    due(0, tells(1, 50, 200));
    due(0, tells(1, 50, 201));
    due(1, tells(1, 10, 999));
    due(0, tells(1, 10, 1000));
    due(0, tells(1, 10, 1001));
    due(1, tells(1, 99, 101));
    due(0, tells(1, 99, 102));
    due(0, tells(1, 99, 8991));
    due(101, tells(1, 1, 8991));
  }

  private static void market() {
    says("2 MARKET: 900, if MILES are 10 p at most, else 100.");
    for (int p : new int[] {1, 2, 50, 98, 99}) {
      due(900, tells(2, p, 0));
      due(900, tells(2, p, 10 * p - 1));
      due(900, tells(2, p, 10 * p));
      due(100, tells(2, p, 10 * p + 1));
      due(100, tells(2, p, 8991));
    }
  }

  private static void misses() {
    says("over all PLACES with COUNTS that can be come to the differences without sign, together");
    BlackGlass x = told(plainFlow(0, 0, 0) + ";boat 0 1 10;boat 0 2 20;boat 8 9 1");
    // None with COUNTS.
    for (int law = 0; law < 3; law++) due(0, x.miss(0, law, 1));
    x.counts(0, 0, 1, 1);
    due(100, x.miss(0, 2, 1));
    x.counts(1, 0, 8, 10);
    due(100 + 100, x.miss(0, 2, 1));
    x.counts(2, 0, 1, 10);
    due(100 + 100 + 0, x.miss(0, 2, 1));
    due(0 + 300 + 150, x.miss(0, 0, 1));
    // Those that can't be come to don't count, and do once they can.
    x.counts(8, 0, 1, 1);
    x.counts(9, 0, 1, 1);
    due(200, x.miss(0, 2, 1));
    tell(x, "land 2 8 10");
    due(200 + 900 + 900, x.miss(0, 2, 1));
    tell(x, "boat 8 9 0");
    due(200 + 900, x.miss(0, 2, 1));
    // All ten PLACES, each as far off as can be.
    BlackGlass y = told(plainFlow(0, 0, 0));
    for (int p = 1; p < 10; p++) tell(y, "boat 0 " + p + " 999");
    for (int p = 0; p < 10; p++) y.counts(p, 0, 999, 999);
    due(9000, y.miss(0, 0, 1));
    due(100 + 8100, y.miss(0, 2, 99));
    says("MISS of a LAW with p for a FLOW. UNKNOWN; OUTSIDE.");
    bounds(0, 2, OUTSIDE, 1, law -> Math.min(1, y.miss(0, law, 9)));
    for (int law = 0; law < 3; law++) {
      int it = law;
      bounds(1, 99, OUTSIDE, 1, p -> Math.min(1, y.miss(0, it, p)));
    }
    bounds(0, 0, UNKNOWN, 1, f -> Math.min(1, y.miss(f, 0, 1)));
    due(UNKNOWN, y.miss(8, 0, 1));
    due(UNKNOWN, y.miss(9, 3, 0));
    due(OUTSIDE, y.miss(0, 3, 0));
    due(UNKNOWN, new BlackGlass().miss(0, 0, 1));
  }

  private static void bestLaw() {
    says("BEST LAW: the least MISS, of several the least LAW, then the least p.");
    BlackGlass x = told(plainFlow(0, 0, 0) + ";boat 0 1 500");
    // Without COUNTS all miss by 0.
    due(1, x.law(0, 0));
    due(0, x.law(0, 1));
    // 500 of 1000 at 500 miles: GIFTS from p 26 to 50, CARRIERS with p 10.
    x.counts(1, 0, 1, 2);
    due(26, x.law(0, 0));
    due(0, x.law(0, 1));
    due(0, x.miss(0, 1, 10));
    due(250, x.miss(0, 0, 25));
    due(0, x.miss(0, 0, 50));
    // 900: CARRIERS with p 2, MARKET from p 50 on.
    x.counts(1, 0, 9, 10);
    due(102, x.law(0, 0));
    due(0, x.law(0, 1));
    due(0, x.miss(0, 2, 50));
    // 100: CARRIERS with p 18, MARKET up to p 49.
    x.counts(1, 0, 1, 10);
    due(118, x.law(0, 0));
    due(0, x.miss(0, 2, 49));
    due(800, x.miss(0, 2, 50));
    // The greatest LAW and p that can be best.
    tell(x, "boat 0 1 990");
    x.counts(1, 0, 901, 999);
    due(101, x.law(0, 0));
    due(0, x.law(0, 1));
    x.counts(1, 0, 9, 10);
    due(299, x.law(0, 0));
    due(0, x.law(0, 1));
    tell(x, "boat 0 1 991");
    // 901 by CARRIERS with p 1.
    due(101, x.law(0, 0));
    due(1, x.law(0, 1));
    says("BEST LAW for a FLOW: 100 times it and p (what 0), its MISS (1). UNKNOWN; OUTSIDE.");
    bounds(0, 1, OUTSIDE, 1, w -> Math.min(1, x.law(0, w)));
    bounds(0, 0, UNKNOWN, 101, f -> x.law(f, 0));
    due(UNKNOWN, x.law(8, 0));
    due(UNKNOWN, x.law(1, 2));
    due(UNKNOWN, x.law(9, -1));
    due(UNKNOWN, new BlackGlass().law(0, 0));
  }

  private static void dates() {
    says("A BLADE was STRUCK in a told YEAR, for LEARNT (NONE: it is not told): 1. UNKNOWN; OUTSIDE.");
    BlackGlass x = new BlackGlass();
    due(UNKNOWN, x.dated(0, 0));
    plain(x, 1, 1, 0);
    bounds(NONE, 9999, OUTSIDE, 1, y -> x.dated(0, y));
    bounds(0, 0, UNKNOWN, 1, b -> x.dated(b, 9899));
    due(UNKNOWN, x.dated(1, 10000));
    due(UNKNOWN, x.dated(1, -2));
    x.rim(0, 100, 0);
    due(98, x.learnt(1, 0));
    due(OUTSIDE, x.dated(0, 10000));
    due(OUTSIDE, x.dated(0, -2));
    due(98, x.learnt(1, 0));
    due(1, x.dated(0, NONE));
    due(NONE, x.learnt(1, 0));
    due(1, x.dated(0, NONE));
    due(1, x.dated(0, 9899));
    due(102, x.learnt(1, 1));
    // For LEARNT alone: no SPAN is bound by it.
    spans(x, 0, 9897, 9901, NONE, NONE, 9897, 9999);
    due(1, x.dated(0, 5));
    spans(x, 0, 9897, 9901, NONE, NONE, 9897, 9999);
  }

  private static void learns(int rim, int year, int least, int greatest) {
    BlackGlass x = new BlackGlass();
    plain(x, 9, 1, 0);
    x.rim(0, rim, 0);
    x.dated(0, year);
    due(least, x.learnt(9, 0));
    due(greatest, x.learnt(9, 1));
  }

  private static void learntOfOne() {
    says("the least WARMTH (1 .. 999) by which each RIM's span has its YEAR, and the greatest; none.");
    // No RIM of 0; RIM 1 was struck 0 to 4 by WARMTH years ago.
    learns(0, 9999, NONE, NONE);
    learns(0, 0, NONE, NONE);
    learns(1, 9999, 1, 999);
    learns(1, 9998, 1, 4);
    learns(1, 9995, 1, 1);
    learns(1, 9994, NONE, NONE);
    // RIM 2: 1 to 9 by WARMTH.
    learns(2, 9999, 2, 999);
    learns(2, 9998, 1, 9);
    learns(2, 9990, 1, 1);
    learns(2, 9989, NONE, NONE);
    // 961 is less than one year by 962 and more; 1024 isn't by 999 yet, one year it is by 513 and more.
    learns(32, 9999, 962, 999);
    learns(33, 9999, NONE, NONE);
    learns(33, 9998, 513, 999);
    // 98 * 98 and 100 * 100 by 1: 9604 to 10000 years ago, which is cut at YEAR 0; 97 * 97 to 99 * 99 isn't so long ago.
    learns(99, 0, 1, 1);
    learns(98, 0, NONE, NONE);
    learns(99, 395, 1, 1);
    learns(99, 396, NONE, NONE);
    // 996004 to 1000000.
    learns(999, 0, 1, 100);
    learns(999, 1, 100, 100);
    learns(999, 9999, NONE, NONE);
    learns(999, 9003, NONE, NONE);
    learns(999, 9002, 999, 999);
    learns(999, 8998, 995, 999);
    learns(999, 8997, 994, 998);
    learns(100, 9899, 98, 102);
  }

  private static void learntOfSeveral() {
    says("LEARNT is WARMTH of a PLACE by BLADES of it that were STRUCK in told YEARS (by a dated floor; RIM above 0)");
    BlackGlass x = new BlackGlass();
    for (int b = 0; b < 3; b++) plain(x, 9, 1, 0);
    plain(x, 0, 1, 0);
    x.rim(0, 100, 0);
    x.dated(0, 9899);
    due(98, x.learnt(9, 0));
    due(102, x.learnt(9, 1));
    // With 98 .. 102 by the first: a second one that has its bound inside, at the last, just beyond.
    int[][] seconds = {
      {50, 9975, 98, 102}, {50, 9976, 101, 102}, {40, 9985, 102, 102}, {33, 9990, NONE, NONE}, {40, 9982, 98, 98}, {36, 9985, NONE, NONE}};
    for (int[] s : seconds) {
      x.rim(1, s[0], 0);
      x.dated(1, s[1]);
      due(s[2], x.learnt(9, 0));
      due(s[3], x.learnt(9, 1));
    }
    // One without a RIM, one without a YEAR, one of another PLACE count nothing.
    x.dated(1, NONE);
    x.dated(2, 5);
    x.rim(3, 7, 0);
    x.dated(3, 5);
    due(98, x.learnt(9, 0));
    due(102, x.learnt(9, 1));
    due(NONE, x.learnt(0, 0));
    // The RIM counts, not the second one; and not the WARMTH that was told.
    x.rim(0, 100, 99);
    tell(x, "place 9 0 1 7");
    due(98, x.learnt(9, 0));
    due(102, x.learnt(9, 1));
    says("LEARNT of a PLACE: the least (what 0), the greatest (1); NONE: there is none, or no BLADE of it is dated with a RIM. UNKNOWN; OUTSIDE.");
    bounds(0, 1, OUTSIDE, 1, w -> Math.min(1, x.learnt(9, w)));
    bounds(0, 9, UNKNOWN, 1, p -> x.learnt(p, 0) == UNKNOWN ? UNKNOWN : 1);
    due(UNKNOWN, x.learnt(10, 2));
    due(UNKNOWN, x.learnt(-1, -1));
    due(OUTSIDE, x.learnt(5, 2));
    due(NONE, x.learnt(5, 0));
    x.rim(0, 0, 0);
    due(NONE, x.learnt(9, 0));
    due(NONE, x.learnt(9, 1));
  }

  private static void counting() {
    says("0 FLOWS told, 1 bytes of THE TEXT, 2 BLADES, 3 NEAR, 4 FAR, 5 STRIKES. OUTSIDE.");
    BlackGlass x = new BlackGlass();
    bounds(0, 5, OUTSIDE, 0, w -> Math.min(0, x.count(w)));
    for (int f = 0; f < 9; f++) {
      due(f, x.count(0));
      tell(x, plainFlow(f, 0, 0));
      tell(x, plainFlow(f, 1, 1));
    }
    due(9, x.count(0));
    write(x, "near 999;far 0");
    due(14, x.count(1));
    due(20, x.count(3));
    x.land();
    due(0, x.count(1));
    due(999, x.count(3));
    due(0, x.count(4));
    for (int b = 0; b < 12; b++) plain(x, 0, 1, 0);
    due(12, x.count(2));
    due(0, x.count(5));
    x.strike(3, 4);
    due(1, x.count(5));
    due(NOT, x.strike(4, 3));
    due(1, x.count(5));
    x.undo(4);
    due(1, x.count(5));
    x.undo(3);
    due(0, x.count(5));
  }
}
