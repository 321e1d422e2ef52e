/** The sentences on BLADES and their YEARS that name a bound, each by itself; promises 9 to 21. */
public final class BladeEdgesTest extends Sheet {
  public static void main(String[] args) {
    manyBlades();
    bladeNumbers();
    rims();
    measuring();
    asking();
    offs();
    cans();
    names();
    unknownGlass();
    strikes();
    undoing();
    struckAndLaid();
    opens();
    layers();
    struckFromOthers();
    rimSpans();
    reused();
    noWay();
    spanning();
    heirlooms();
    mayBeOfOneFlow();
    mayBeBigger();
    mayNotComeFromIt();
    mayHaveWay();
    chainOfMost();
    chainAnswers();
    finish();
  }

  /** A PLACE each with WARMTH 1, where a RIM of 10 was struck in 9878 .. 9918, and one FLOW, OPEN always. */
  private static BlackGlass coldLand() {
    return told("place 0 0 9999 1;place 1 0 9999 1;place 2 0 9999 1;place 3 0 9999 1;" + plainFlow(0, 0, 0));
  }

  private static void manyBlades() {
    says("BLADES are 12 at most");
    BlackGlass x = new BlackGlass();
    for (int b = 0; b < 12; b++) {
      due(UNKNOWN, x.of(b, 0));
      due(b, plain(x, b % 10, 1 + b, b));
      due(b + 1, x.count(2));
      due(b % 10, x.of(b, 0));
    }
    due(FULL, plain(x, 0, 1, 0));
    due(12, x.count(2));
    due(UNKNOWN, x.of(12, 0));
    due(12, x.of(11, 5));
    says("A BLADE without RIM: its number. UNKNOWN: PLACE; OUTSIDE; FULL.");
    // The first of these that fits, when it is full, too.
    due(UNKNOWN, x.blade(10, 0, 0, 0, -1));
    due(UNKNOWN, x.blade(-1, 0, 1, 1, 0));
    due(OUTSIDE, x.blade(0, 0, 0, 1, 0));
    due(OUTSIDE, x.blade(0, 1000, 1, 1, 0));
    due(OUTSIDE, x.blade(0, 0, 1, 0, 0));
    due(OUTSIDE, x.blade(0, 0, 1, 1, 100));
    due(FULL, x.blade(9, 0, 1, 1, 0));
    BlackGlass y = new BlackGlass();
    bounds(0, 9, UNKNOWN, 0, p -> new BlackGlass().blade(p, 0, 1, 1, 0));
    due(UNKNOWN, y.blade(10, 1000, 1, 1, 0));
    due(0, y.count(2));
    due(0, y.blade(9, 0, 1, 1, 0));
    due(0, y.of(0, 7));
    due(0, y.of(0, 8));
    due(NONE, y.of(0, 9));
    // A number is given once: a refused one takes none.
    due(OUTSIDE, y.blade(0, 0, 100, 1, 0));
    due(1, y.blade(0, 0, 99, 1, 0));
  }

  private static void bladeNumbers() {
    says("with three NUMBERS (0 .. 999)");
    for (int i = 0; i < 3; i++) {
      for (int number : new int[] {0, 1, 998, 999}) {
        BlackGlass x = new BlackGlass();
        due(0, x.blade(0, number << 10 * i, 1, 1, 0));
        for (int k = 0; k < 3; k++) due(k == i ? number : 0, x.of(0, 1 + k));
        due(1, x.measure(0, number << 10 * i, 2));
        for (int k = 0; k < 3; k++) due(k == i ? number : 0, x.of(0, 1 + k));
      }
      for (int number : new int[] {1000, 1001, 1022, 1023}) {
        BlackGlass x = new BlackGlass();
        due(OUTSIDE, x.blade(0, number << 10 * i, 1, 1, 0));
        due(0, x.count(2));
        plain(x, 0, 1, 0);
        due(OUTSIDE, x.measure(0, number << 10 * i, 2));
        due(100, x.of(0, 1 + i));
        due(1, x.of(0, 4));
      }
    }
    says("(NUMBERS: numbers >> 10 i & 1023.)");
    BlackGlass x = new BlackGlass();
    due(0, x.blade(0, numbers(999, 998, 997), 1, 1, 0));
    due(1, x.blade(0, numbers(1, 2, 3) | 1 << 30, 1, 1, 0));
    due(2, x.blade(0, numbers(4, 5, 6) | 1 << 31, 1, 1, 0));
    due(3, x.blade(0, numbers(7, 8, 9) | 3 << 30, 1, 1, 0));
    int[] want = {999, 998, 997, 1, 2, 3, 4, 5, 6, 7, 8, 9};
    for (int i = 0; i < 12; i++) due(want[i], x.of(i / 3, 1 + i % 3));
    due(OUTSIDE, x.blade(0, -1, 1, 1, 0));
    due(OUTSIDE, x.blade(0, Integer.MAX_VALUE, 1, 1, 0));
    due(4, x.blade(0, Integer.MIN_VALUE, 1, 1, 0));
    due(0, x.of(4, 3));
    due(5, x.blade(0, numbers(999, 999, 999) | 3 << 30, 1, 1, 0));
    for (int i = 0; i < 3; i++) due(999, x.of(5, 1 + i));
    says("ERROR (1 .. 99)");
    bounds(1, 99, OUTSIDE, 0, e -> new BlackGlass().blade(0, 0, e, 1, 0));
    says("SIZE (1 .. 999)");
    bounds(1, 999, OUTSIDE, 0, s -> new BlackGlass().blade(0, 0, 1, s, 0));
    says("LAYER (0 .. 99)");
    bounds(0, 99, OUTSIDE, 0, l -> new BlackGlass().blade(0, 0, 1, 1, l));
  }

  private static void rims() {
    says("and a RIM (0 .. 999; 0: none)");
    BlackGlass x = coldLand();
    plain(x, 0, 1, 0);
    bounds(0, 999, OUTSIDE, 1, r -> x.rim(0, r, 0));
    due(999, x.of(0, 7));
    due(1, x.rim(0, 0, 0));
    spans(x, 0, 0, 9999, NONE, NONE, 0, 9999);
    due(1, x.rim(0, 1, 0));
    spans(x, 0, 9995, 9999, NONE, NONE, 9995, 9999);
    says("REUSED is a BLADE that has a SECOND RIM (1 .. 999, less than its RIM).");
    for (int rim : new int[] {2, 3, 500, 998, 999}) {
      due(OUTSIDE, x.rim(0, rim, -1));
      due(1, x.rim(0, rim, 0));
      due(NONE, x.span(0, 2));
      due(1, x.rim(0, rim, 1));
      due(1, x.of(0, 8));
      due(9995, x.span(0, 2));
      due(1, x.rim(0, rim, rim - 1));
      due(rim - 1, x.of(0, 8));
      due(OUTSIDE, x.rim(0, rim, rim));
      due(OUTSIDE, x.rim(0, rim, rim + 1));
      due(rim - 1, x.of(0, 8));
    }
    says("RIM and SECOND RIM (0: none) of a BLADE: 1. UNKNOWN; OUTSIDE: also a second one that is not less.");
    BlackGlass y = new BlackGlass();
    plain(y, 0, 1, 0);
    due(1, y.rim(0, 0, 0));
    due(OUTSIDE, y.rim(0, 0, 1));
    due(OUTSIDE, y.rim(0, 0, -1));
    due(1, y.rim(0, 1, 0));
    due(OUTSIDE, y.rim(0, 1, 1));
    due(OUTSIDE, y.rim(0, 1000, 999));
    due(OUTSIDE, y.rim(0, 1000, 0));
    due(OUTSIDE, y.rim(0, -1, 0));
    due(OUTSIDE, y.rim(0, -1, -2));
    due(OUTSIDE, y.rim(0, Integer.MIN_VALUE, 5));
    due(OUTSIDE, y.rim(0, Integer.MAX_VALUE, 5));
    due(OUTSIDE, y.rim(0, 5, Integer.MAX_VALUE));
    due(OUTSIDE, y.rim(0, 5, Integer.MIN_VALUE));
    due(1, y.of(0, 7));
    due(0, y.of(0, 8));
    bounds(0, 0, UNKNOWN, 1, b -> y.rim(b, 5, 4));
    due(UNKNOWN, y.rim(1, 1000, 1000));
    // Told anew without a second one, the one that was is gone.
    due(1, y.rim(0, 5, 0));
    due(0, y.of(0, 8));
  }

  private static void measuring() {
    says("A BLADE is measured anew: its NUMBERS, ERROR: the ERROR that it had. UNKNOWN; OUTSIDE.");
    BlackGlass x = new BlackGlass();
    due(UNKNOWN, x.measure(0, 0, 1));
    x.blade(3, numbers(1, 2, 3), 4, 5, 6);
    x.rim(0, 8, 7);
    due(4, x.measure(0, numbers(11, 12, 13), 1));
    due(1, x.measure(0, numbers(21, 22, 23), 99));
    due(99, x.measure(0, numbers(31, 32, 33), 98));
    due(OUTSIDE, x.measure(0, numbers(41, 42, 43), 0));
    due(OUTSIDE, x.measure(0, numbers(41, 42, 43), 100));
    due(OUTSIDE, x.measure(0, numbers(41, 42, 43), Integer.MIN_VALUE));
    due(OUTSIDE, x.measure(0, numbers(1000, 42, 43), 5));
    int[] want = {3, 31, 32, 33, 98, 5, 6, 8, 7, NONE};
    for (int w = 0; w < 10; w++) due(want[w], x.of(0, w));
    due(UNKNOWN, x.measure(1, 0, 1));
    due(UNKNOWN, x.measure(-1, 0, 1));
    due(UNKNOWN, x.measure(1, 1000, 0));
  }

  private static void asking() {
    says("from which it was struck (9; NONE). UNKNOWN; OUTSIDE.");
    BlackGlass x = new BlackGlass();
    due(UNKNOWN, x.of(0, 0));
    due(UNKNOWN, x.of(0, 10));
    x.blade(9, numbers(999, 0, 1), 99, 999, 99);
    x.blade(1, numbers(0, 0, 0), 1, 1, 0);
    x.rim(0, 999, 998);
    int[] first = {9, 999, 0, 1, 99, 999, 99, 999, 998, NONE};
    int[] second = {1, 0, 0, 0, 1, 1, 0, 0, 0, 0};
    x.strike(1, 0);
    for (int w = 0; w < 10; w++) {
      due(first[w], x.of(0, w));
      due(second[w], x.of(1, w));
    }
    bounds(0, 9, OUTSIDE, 1, w -> x.of(0, w) == OUTSIDE ? OUTSIDE : 1);
    bounds(0, 1, UNKNOWN, 1, b -> x.of(b, 0) == UNKNOWN ? UNKNOWN : 1);
    due(UNKNOWN, x.of(2, -1));
    due(UNKNOWN, x.of(2, 10));
  }

  private static void offs() {
    says("of the three the greatest of 10 times how far NUMBER and STUFF are apart, by ERROR and SPREAD together, cut.");
    BlackGlass x = told("flow 0 0 0 500 500 500 4;flow 1 0 0 0 0 0 0;flow 8 0 0 999 999 999 99");
    x.blade(0, numbers(500, 500, 500), 3, 1, 0);
    due(0, x.off(0, 0));
    for (int i = 0; i < 3; i++) {
      // 7 together: 60 by 7 is 8, 70 by 7 is 10, 80 by 7 is 11; to both sides.
      for (int side = -1; side <= 1; side += 2) {
        x.measure(0, numbers(500, 500, 500) + (side * 6 << 10 * i), 3);
        due(8, x.off(0, 0));
        x.measure(0, numbers(500, 500, 500) + (side * 7 << 10 * i), 3);
        due(10, x.off(0, 0));
        x.measure(0, numbers(500, 500, 500) + (side * 8 << 10 * i), 3);
        due(11, x.off(0, 0));
      }
    }
    x.measure(0, numbers(503, 491, 505), 3);
    due(12, x.off(0, 0));
    x.measure(0, numbers(511, 491, 505), 3);
    due(15, x.off(0, 0));
    x.measure(0, numbers(503, 491, 485), 3);
    due(21, x.off(0, 0));
    // The least and the greatest divisor: 1 and 198.
    x.measure(0, numbers(999, 0, 0), 1);
    due(9990, x.off(0, 1));
    x.measure(0, numbers(0, 0, 1), 1);
    due(10, x.off(0, 1));
    x.measure(0, numbers(979, 980, 999), 99);
    due(1, x.off(0, 8));
    x.measure(0, numbers(980, 980, 999), 99);
    due(0, x.off(0, 8));
    x.measure(0, numbers(0, 0, 0), 99);
    due(50, x.off(0, 8));
    says("`int off(int blade, int flow)`: OFF. UNKNOWN.");
    bounds(0, 0, UNKNOWN, 1, b -> Math.min(1, x.off(b, 8)));
    due(UNKNOWN, x.off(1, 0));
    for (int f = 2; f < 8; f++) due(UNKNOWN, x.off(0, f));
    due(UNKNOWN, x.off(0, 9));
    due(UNKNOWN, x.off(0, -1));
    due(UNKNOWN, x.off(1, 9));
    due(UNKNOWN, x.off(0, Integer.MAX_VALUE));
    due(UNKNOWN, x.off(Integer.MIN_VALUE, 0));
  }

  private static void cans() {
    says("It CAN BE of FLOWS that are NEAR off at most.");
    BlackGlass x = told("flow 0 0 0 100 100 100 0;near 20");
    x.blade(0, numbers(102, 100, 100), 1, 1, 0);
    due(1, x.can(0));
    x.measure(0, numbers(103, 100, 100), 1);
    due(0, x.can(0));
    tell(x, "near 29");
    due(0, x.can(0));
    tell(x, "near 30");
    due(1, x.can(0));
    tell(x, "near 31");
    due(1, x.can(0));
    // OFF is cut: 230 by 11 is 20, 240 by 11 is 21.
    tell(x, "near 20");
    x.measure(0, numbers(100, 123, 100), 11);
    due(1, x.can(0));
    x.measure(0, numbers(100, 124, 100), 11);
    due(0, x.can(0));
    // NEAR at its own bounds: 0 and 999.
    tell(x, "near 0");
    x.measure(0, numbers(100, 100, 100), 1);
    due(1, x.can(0));
    x.measure(0, numbers(100, 100, 101), 1);
    due(0, x.can(0));
    x.measure(0, numbers(100, 100, 109), 99);
    due(1, x.can(0));
    x.measure(0, numbers(100, 100, 110), 99);
    due(0, x.can(0));
    tell(x, "near 999;flow 0 0 0 0 0 0 0");
    x.measure(0, numbers(0, 0, 999), 10);
    due(1, x.can(0));
    tell(x, "near 998");
    due(0, x.can(0));
    says("FLOWS of which a BLADE CAN BE, by bits. UNKNOWN.");
    BlackGlass y = new BlackGlass();
    due(UNKNOWN, y.can(0));
    plain(y, 0, 1, 0);
    due(0, y.can(0));
    for (int f = 8; f >= 0; f--) {
      tell(y, plainFlow(f, 0, 0));
      due(511 >> f << f, y.can(0));
    }
    bounds(0, 0, UNKNOWN, 511, b -> y.can(b));
    // FLOW 0 told anew so that it is no longer near.
    tell(y, "flow 0 0 0 103 100 100 0");
    due(510, y.can(0));
  }

  private static void names() {
    says("It is NAMED, if it CAN BE of just one and each other FLOW is FAR off or more");
    BlackGlass x = told("flow 0 0 0 100 100 100 0;flow 8 0 0 105 100 100 0;near 20;far 30");
    x.blade(0, numbers(102, 100, 100), 1, 1, 0);
    due(0, x.named(0));
    tell(x, "far 31");
    due(NONE, x.named(0));
    tell(x, "far 29");
    due(0, x.named(0));
    x.measure(0, numbers(103, 100, 100), 1);
    tell(x, "far 30");
    due(8, x.named(0));
    tell(x, "far 31");
    due(NONE, x.named(0));
    // Each other one: a third FLOW at the bound, as near as its own, and in between.
    tell(x, "far 30;flow 4 0 0 106 100 100 0");
    due(8, x.named(0));
    tell(x, "flow 4 0 0 105 100 100 0");
    due(NONE, x.named(0));
    tell(x, "far 31;flow 0 0 0 99 100 100 0;flow 4 0 0 106 100 100 0");
    due(NONE, x.named(0));
    tell(x, "flow 4 0 0 107 100 100 0");
    due(8, x.named(0));
    // Just one: of none, of two.
    BlackGlass y = told("flow 2 0 0 100 100 100 0;flow 3 0 0 900 900 900 0");
    y.blade(0, numbers(500, 500, 500), 1, 1, 0);
    due(NONE, y.named(0));
    y.measure(0, numbers(100, 100, 100), 1);
    due(2, y.named(0));
    tell(y, plainFlow(3, 0, 0));
    due(NONE, y.named(0));
    tell(y, "far 0");
    due(NONE, y.named(0));
    BlackGlass one = told("flow 5 0 0 100 100 100 0;far 999");
    plain(one, 0, 1, 0);
    due(5, one.named(0));
    says("(its own, too, may be: NEAR counts)");
    BlackGlass z = told("flow 0 0 0 100 100 100 0;flow 1 0 0 110 100 100 0;near 50;far 50");
    z.blade(0, numbers(105, 100, 100), 1, 1, 0);
    due(NONE, z.named(0));
    z.measure(0, numbers(104, 100, 100), 1);
    due(0, z.named(0));
    tell(z, "far 40");
    due(0, z.named(0));
    tell(z, "far 39");
    due(0, z.named(0));
    tell(z, "far 0");
    due(0, z.named(0));
    tell(z, "far 61");
    due(NONE, z.named(0));
    says("The FLOW that is NAMED; NONE. UNKNOWN.");
    bounds(0, 0, UNKNOWN, NONE, b -> z.named(b));
    due(UNKNOWN, new BlackGlass().named(0));
  }

  private static void unknownGlass() {
    says("UNKNOWN GLASS, if it CAN BE of none.");
    BlackGlass x = told(plainFlow(0, 0, 5000) + ";near 20");
    x.blade(0, numbers(103, 100, 100), 1, 1, 0);
    due(0, x.can(0));
    spans(x, 0, 0, 9999, NONE, NONE, 0, 9999);
    due(0, x.boats());
    x.measure(0, numbers(102, 100, 100), 1);
    due(1, x.can(0));
    spans(x, 0, 5000, 9999, NONE, NONE, 5000, 9999);
  }

  private static void strikes() {
    says("STRIKES are told pairs: a BLADE was struck from another one.");
    BlackGlass x = new BlackGlass();
    for (int b = 0; b < 12; b++) plain(x, 0, 1, 0);
    due(0, x.count(5));
    // Eleven at most, as they never go round; from one, or in a row.
    for (int b = 1; b < 12; b++) {
      due(1, x.strike(b, 0));
      due(b, x.count(5));
      due(0, x.of(b, 9));
    }
    due(NONE, x.of(0, 9));
    for (int b = 1; b < 12; b++) due(NOT, x.strike(0, b));
    due(11, x.count(5));
    says("A STRIKE is told: 1. UNKNOWN: also one and itself; NOT: it was struck from one already, or that one from it (by others, too).");
    BlackGlass row = new BlackGlass();
    due(UNKNOWN, row.strike(0, 0));
    due(UNKNOWN, row.strike(0, 1));
    for (int b = 0; b < 12; b++) plain(row, 0, 1, 0);
    for (int b = 1; b < 12; b++) due(1, row.strike(b, b - 1));
    // That one from it: at once, by one other, by all the others.
    for (int b = 1; b < 12; b++) due(NOT, row.strike(0, b));
    // From one already: the same, another one.
    due(NOT, row.strike(11, 10));
    due(NOT, row.strike(11, 0));
    due(NOT, row.strike(5, 11));
    for (int b = 0; b < 12; b++) due(UNKNOWN, row.strike(b, b));
    due(UNKNOWN, row.strike(12, 0));
    due(UNKNOWN, row.strike(0, 12));
    due(UNKNOWN, row.strike(-1, 0));
    due(UNKNOWN, row.strike(0, -1));
    due(UNKNOWN, row.strike(-1, -1));
    due(UNKNOWN, row.strike(1, Integer.MIN_VALUE));
    for (int b = 1; b < 12; b++) due(b - 1, row.of(b, 9));
    // Two of one row that don't come from each other.
    due(5, row.undo(6));
    due(1, row.strike(0, 11));
    due(NOT, row.strike(6, 5));
    due(0, row.undo(1));
    due(1, row.strike(6, 5));
  }

  private static void undoing() {
    says("A STRIKE is told no more: from which it was; NONE. UNKNOWN.");
    BlackGlass x = new BlackGlass();
    due(UNKNOWN, x.undo(0));
    for (int b = 0; b < 12; b++) plain(x, 0, 1, 0);
    for (int b = 0; b < 12; b++) due(NONE, x.undo(b));
    x.strike(11, 0);
    x.strike(0, 5);
    due(NONE, x.undo(5));
    due(0, x.undo(11));
    due(NONE, x.undo(11));
    due(1, x.count(5));
    due(5, x.undo(0));
    due(0, x.count(5));
    due(1, x.strike(0, 11));
    due(UNKNOWN, x.undo(12));
    due(UNKNOWN, x.undo(-1));
    due(UNKNOWN, x.undo(Integer.MAX_VALUE));
    due(UNKNOWN, x.undo(Integer.MIN_VALUE));
    due(1, x.count(5));
  }

  private static void struckAndLaid() {
    says("Each BLADE was STRUCK in a YEAR and LAID in a YEAR, not ahead of it");
    BlackGlass x = told(plainFlow(0, 0, 4999) + ";place 1 3000 5000 1");
    plain(x, 1, 1, 0);
    spans(x, 0, 4999, 5000, NONE, NONE, 4999, 5000);
    tell(x, plainFlow(0, 0, 5000));
    spans(x, 0, 5000, 5000, NONE, NONE, 5000, 5000);
    tell(x, plainFlow(0, 0, 5001));
    spans(x, 0, NONE, NONE, NONE, NONE, NONE, NONE);
    says("LAID, while its PLACE was LIVE");
    tell(x, plainFlow(0, 0, 2999));
    spans(x, 0, 2999, 5000, NONE, NONE, 3000, 5000);
    tell(x, plainFlow(0, 0, 3000));
    spans(x, 0, 3000, 5000, NONE, NONE, 3000, 5000);
    tell(x, plainFlow(0, 0, 3001));
    spans(x, 0, 3001, 5000, NONE, NONE, 3001, 5000);
    tell(x, plainFlow(0, 0, 0) + ";place 1 0 0 1");
    spans(x, 0, 0, 0, NONE, NONE, 0, 0);
    tell(x, "place 1 9999 9999 1");
    spans(x, 0, 0, 9999, NONE, NONE, 9999, 9999);
    tell(x, "place 1 0 9998 1;" + plainFlow(0, 0, 9999));
    spans(x, 0, NONE, NONE, NONE, NONE, NONE, NONE);
    // STRUCK, its PLACE need not be LIVE, nor that of the FLOW.
    tell(x, "place 0 0 1 1;place 1 9000 9999 1;" + plainFlow(0, 0, 500));
    spans(x, 0, 500, 9999, NONE, NONE, 9000, 9999);
  }

  private static void opens() {
    says("STRUCK, when a FLOW of those it CAN BE of was OPEN (the earliest OPEN of these; UNKNOWN GLASS: any)");
    BlackGlass x = told(plainFlow(3, 0, 2000), "flow 5 0 100 900 900 900 0");
    plain(x, 1, 1, 0);
    due(2000, x.span(0, 0));
    tell(x, plainFlow(8, 0, 1999));
    due(1999, x.span(0, 0));
    tell(x, plainFlow(8, 0, 2001));
    due(2000, x.span(0, 0));
    tell(x, plainFlow(0, 0, 0));
    due(0, x.span(0, 0));
    tell(x, "flow 0 0 0 900 900 900 0");
    due(2000, x.span(0, 0));
    x.measure(0, numbers(500, 500, 500), 1);
    due(0, x.span(0, 0));
    x.measure(0, numbers(900, 900, 900), 1);
    due(0, x.span(0, 0));
    tell(x, "flow 0 0 9999 900 900 900 0");
    due(100, x.span(0, 0));
    tell(x, "flow 5 0 9999 900 900 900 0");
    due(9999, x.span(0, 0));
    due(9999, x.span(0, 5));
  }

  private static void layers() {
    says("Of two BLADES of one PLACE the one of the greater LAYER (deeper) was not LAID behind the other.");
    BlackGlass x = coldLand();
    plain(x, 1, 1, 50);
    // 9878 .. 9918.
    x.rim(0, 10, 0);
    plain(x, 1, 1, 49);
    plain(x, 1, 1, 50);
    plain(x, 1, 1, 51);
    plain(x, 2, 1, 49);
    plain(x, 1, 1, 0);
    plain(x, 1, 1, 99);
    spans(x, 0, 9878, 9918, NONE, NONE, 9878, 9999);
    due(9878, x.span(1, 4));
    due(0, x.span(2, 4));
    due(0, x.span(3, 4));
    due(0, x.span(4, 4));
    due(9878, x.span(5, 4));
    due(0, x.span(6, 4));
    for (int b = 1; b < 7; b++) {
      due(0, x.span(b, 0));
      due(9999, x.span(b, 1));
      due(9999, x.span(b, 5));
    }
    // The deepest of several bounds them all; 9558 .. 9638 and 9963 .. 9983.
    x.rim(6, 5, 0);
    x.rim(3, 20, 0);
    due(9963, x.span(0, 4));
    due(9963, x.span(1, 4));
    due(9963, x.span(2, 4));
    due(9963, x.span(3, 4));
    due(0, x.span(4, 4));
    due(9963, x.span(6, 4));
    // A LAYER bounds LAID alone, and there is a way just until the PLACE is LIVE no more.
    tell(x, "place 1 0 9963 1");
    due(9963, x.span(5, 4));
    due(9963, x.span(6, 1));
    tell(x, "place 1 0 9962 1");
    due(NONE, x.span(5, 4));
  }

  private static void struckFromOthers() {
    says("A BLADE struck from another one was not STRUCK ahead of it.");
    BlackGlass x = coldLand();
    plain(x, 1, 3, 0);
    plain(x, 2, 2, 0);
    plain(x, 3, 1, 0);
    x.rim(0, 10, 0);
    x.strike(1, 0);
    x.strike(2, 1);
    spans(x, 0, 9878, 9918, NONE, NONE, 9878, 9999);
    spans(x, 1, 9878, 9999, NONE, NONE, 9878, 9999);
    spans(x, 2, 9878, 9999, NONE, NONE, 9878, 9999);
    // In the same YEAR is not ahead.
    tell(x, "place 3 0 9878 1");
    spans(x, 0, 9878, 9878, NONE, NONE, 9878, 9999);
    spans(x, 1, 9878, 9878, NONE, NONE, 9878, 9999);
    spans(x, 2, 9878, 9878, NONE, NONE, 9878, 9878);
    tell(x, "place 3 0 9877 1");
    for (int b = 0; b < 3; b++) spans(x, b, NONE, NONE, NONE, NONE, NONE, NONE);
    tell(x, "place 3 0 9879 1");
    spans(x, 1, 9878, 9879, NONE, NONE, 9878, 9999);
    // Being STRUCK counts, not being struck again, nor LAID.
    tell(x, "place 3 0 9999 1");
    x.rim(0, 10, 5);
    spans(x, 0, 9878, 9918, 9963, 9983, 9963, 9999);
    spans(x, 1, 9878, 9999, NONE, NONE, 9878, 9999);
    x.rim(0, 0, 0);
    x.rim(2, 10, 5);
    spans(x, 1, 0, 9918, NONE, NONE, 0, 9999);
    spans(x, 0, 0, 9918, NONE, NONE, 0, 9999);
    // So, too, where the ones that were struck have the lesser numbers.
    BlackGlass y = coldLand();
    for (int b = 0; b < 4; b++) plain(y, b, 1 + b, 0);
    for (int b = 0; b < 3; b++) y.strike(b, b + 1);
    y.rim(3, 10, 0);
    for (int b = 0; b < 3; b++) spans(y, b, 9878, 9999, NONE, NONE, 9878, 9999);
    tell(y, "place 0 0 9878 1");
    for (int b = 0; b < 4; b++) due(9878, y.span(b, 1));
    tell(y, "place 0 0 9877 1");
    for (int b = 0; b < 4; b++) due(NONE, y.span(b, 1));
  }

  private static void rimSpans() {
    says("from (RIM less 1) times itself by WARMTH of its PLACE, cut, to (RIM and 1) times itself by WARMTH, cut");
    BlackGlass x = coldLand();
    plain(x, 1, 1, 0);
    int[][] cold = {{1, 9995, 9999}, {2, 9990, 9998}, {3, 9983, 9995}, {10, 9878, 9918}};
    for (int[] c : cold) {
      due(1, x.rim(0, c[0], 0));
      due(c[1], x.span(0, 0));
      due(c[2], x.span(0, 1));
    }
    // 961 by 961 is 1, by 962 it is 0; 1089 by 544 is 2, by 545 it is 1.
    x.rim(0, 32, 0);
    int[][] warm = {{961, 9998, 9998}, {962, 9998, 9999}, {960, 9998, 9998}, {544, 9997, 9998}, {545, 9998, 9998}, {999, 9998, 9999}};
    for (int[] w : warm) {
      tell(x, "place 1 0 9999 " + w[0]);
      due(w[1], x.span(0, 0));
      due(w[2], x.span(0, 1));
    }
    x.rim(0, 999, 0);
    // 996004 by 999 is 997, 1000000 by 999 is 1001.
    due(8998, x.span(0, 0));
    due(9002, x.span(0, 1));
    // The WARMTH of another PLACE, be it that of the FLOW, counts nothing.
    tell(x, "place 0 0 9999 7;place 2 0 9999 9");
    due(8998, x.span(0, 0));
    says("(ago: 9999 less that; not below 0)");
    // 728 times itself by 53 is 9999, 469 by 22 it is 9998, 755 by 57 it is 10000.
    tell(x, "place 1 0 9999 53");
    x.rim(0, 727, 0);
    due(0, x.span(0, 0));
    x.rim(0, 729, 0);
    due(0, x.span(0, 1));
    tell(x, "place 1 0 9999 22");
    x.rim(0, 468, 0);
    due(1, x.span(0, 0));
    x.rim(0, 470, 0);
    due(1, x.span(0, 1));
    tell(x, "place 1 0 9999 57");
    x.rim(0, 754, 0);
    due(0, x.span(0, 0));
    x.rim(0, 756, 0);
    due(0, x.span(0, 1));
    due(0, x.span(0, 0));
    tell(x, "place 1 0 9999 1");
    x.rim(0, 999, 998);
    spans(x, 0, 0, 0, 0, 0, 0, 9999);
    // A FLOW that opens in YEAR 1 is too late then.
    tell(x, plainFlow(0, 0, 1));
    spans(x, 0, NONE, NONE, NONE, NONE, NONE, NONE);
  }

  private static void reused() {
    says("A REUSED one was STRUCK so by its RIM, and struck again, by its SECOND RIM likewise, not ahead of that");
    BlackGlass x = coldLand();
    plain(x, 1, 1, 0);
    // Far apart, then overlapping: 9878 .. 9918 and 9899 .. 9935.
    x.rim(0, 10, 1);
    spans(x, 0, 9878, 9918, 9995, 9999, 9995, 9999);
    x.rim(0, 10, 9);
    spans(x, 0, 9878, 9918, 9899, 9935, 9899, 9999);
    // A FLOW that opens late pushes both; the end of the PLACE pulls both.
    tell(x, plainFlow(0, 0, 9910));
    spans(x, 0, 9910, 9918, 9910, 9935, 9910, 9999);
    tell(x, "place 1 0 9912 1");
    spans(x, 0, 9910, 9912, 9910, 9912, 9910, 9912);
    tell(x, "place 1 0 9910 1");
    spans(x, 0, 9910, 9910, 9910, 9910, 9910, 9910);
    tell(x, "place 1 0 9909 1");
    spans(x, 0, NONE, NONE, NONE, NONE, NONE, NONE);
    // RIMS so like that both were in one YEAR: 1024 and 1156 by 999 are 1, 961 and 1089 are 0 and 1.
    tell(x, plainFlow(0, 0, 0) + ";place 1 0 9999 999");
    x.rim(0, 33, 32);
    spans(x, 0, 9998, 9998, 9998, 9999, 9998, 9999);
    says("LAID not ahead of being struck again");
    BlackGlass y = coldLand();
    plain(y, 1, 1, 0);
    y.rim(0, 20, 10);
    tell(y, "place 1 0 9878 1");
    spans(y, 0, 9558, 9638, 9878, 9878, 9878, 9878);
    tell(y, "place 1 0 9877 1");
    spans(y, 0, NONE, NONE, NONE, NONE, NONE, NONE);
    tell(y, "place 1 9900 9999 1");
    spans(y, 0, 9558, 9638, 9878, 9918, 9900, 9999);
    y.rim(0, 20, 0);
    tell(y, "place 1 0 9877 1");
    spans(y, 0, 9558, 9638, NONE, NONE, 9558, 9877);
  }

  private static void noWay() {
    says("none, if there is no such way");
    // One BLADE without a way takes it from all, also those of other PLACES.
    BlackGlass x = coldLand();
    plain(x, 1, 1, 0);
    plain(x, 2, 1, 0);
    x.rim(1, 20, 10);
    x.rim(0, 10, 0);
    tell(x, "place 1 0 9878 1");
    spans(x, 0, 9878, 9878, NONE, NONE, 9878, 9878);
    spans(x, 1, 9558, 9638, 9878, 9918, 9878, 9999);
    tell(x, "place 1 0 9877 1");
    for (int b = 0; b < 2; b++) {
      spans(x, b, NONE, NONE, NONE, NONE, NONE, NONE);
      due(NONE, x.heirloom(b));
      due(NONE, x.reach(b, 0, true, 0));
      due(NONE, x.reach(b, 0, true, 1));
    }
    due(0, x.boats());
    due(NONE, x.sea());
    // What must be known and inside is so without a way, too.
    due(UNKNOWN, x.span(2, 0));
    due(OUTSIDE, x.span(0, 6));
    due(UNKNOWN, x.heirloom(2));
    x.rim(0, 0, 0);
    due(9877, x.span(0, 5));
  }

  private static void spanning() {
    says("AGAIN (2, 3; NONE: not REUSED), LAID (4, 5); NONE: there is no way. UNKNOWN; OUTSIDE.");
    BlackGlass x = coldLand();
    due(UNKNOWN, x.span(0, 0));
    due(UNKNOWN, x.span(0, 6));
    plain(x, 1, 1, 0);
    x.rim(0, 10, 5);
    bounds(0, 5, OUTSIDE, 1, w -> Math.min(1, x.span(0, w)));
    bounds(0, 0, UNKNOWN, 1, b -> Math.min(1, x.span(b, 0)));
    due(UNKNOWN, x.span(1, 6));
    due(UNKNOWN, x.span(1, -1));
    due(9963, x.span(0, 2));
    due(9983, x.span(0, 3));
    x.rim(0, 10, 0);
    due(NONE, x.span(0, 2));
    due(NONE, x.span(0, 3));
    due(9878, x.span(0, 4));
  }

  private static void heirlooms() {
    says("HEIRLOOM: SURE, if its latest STRUCK (AGAIN, if REUSED) is ahead of its earliest LAID");
    BlackGlass x = coldLand();
    plain(x, 1, 1, 0);
    x.rim(0, 10, 0);
    tell(x, "place 1 9917 9999 1");
    due(1, x.heirloom(0));
    tell(x, "place 1 9918 9999 1");
    due(1, x.heirloom(0));
    tell(x, "place 1 9919 9999 1");
    due(2, x.heirloom(0));
    x.rim(0, 20, 10);
    due(2, x.heirloom(0));
    tell(x, "place 1 9918 9999 1");
    due(1, x.heirloom(0));
    // A deeper one that was LAID late makes it sure.
    plain(x, 1, 1, 9);
    x.rim(1, 5, 0);
    due(9963, x.span(0, 4));
    due(2, x.heirloom(0));
    due(1, x.heirloom(1));
    says("MAY BE, if the earliest is ahead of the latest LAID.");
    BlackGlass y = coldLand();
    plain(y, 1, 1, 0);
    y.rim(0, 10, 0);
    tell(y, "place 1 0 9879 1");
    due(1, y.heirloom(0));
    tell(y, "place 1 0 9878 1");
    due(0, y.heirloom(0));
    tell(y, "place 1 0 9877 1");
    due(NONE, y.heirloom(0));
    tell(y, "place 1 0 9878 1");
    y.rim(0, 20, 10);
    due(0, y.heirloom(0));
    tell(y, "place 1 0 9879 1");
    due(1, y.heirloom(0));
    BlackGlass z = told(plainFlow(0, 0, 9999));
    plain(z, 1, 1, 0);
    due(0, z.heirloom(0));
    tell(z, plainFlow(0, 0, 9998));
    due(1, z.heirloom(0));
    says("HEIRLOOM: 2 SURE, 1 MAY BE, 0; NONE: there is no way. UNKNOWN.");
    bounds(0, 0, UNKNOWN, 1, b -> z.heirloom(b));
    due(UNKNOWN, new BlackGlass().heirloom(0));
    tell(z, "place 1 0 9997 1");
    due(NONE, z.heirloom(0));
    due(UNKNOWN, z.heirloom(1));
  }

  private static void mayBeOfOneFlow() {
    says("another BLADE that CAN BE of a FLOW that it CAN BE of, too, of greater SIZE, not one struck from it (by others, too)");
    BlackGlass x = told("flow 0 0 0 100 100 100 0;flow 8 0 0 104 100 100 0;near 20");
    x.blade(0, numbers(100, 100, 100), 1, 1, 0);
    x.blade(0, numbers(102, 100, 100), 1, 5, 0);
    x.blade(0, numbers(103, 100, 100), 1, 5, 0);
    x.blade(0, numbers(107, 100, 100), 1, 5, 0);
    due(1, x.can(0));
    due(257, x.can(1));
    due(256, x.can(2));
    due(0, x.can(3));
    due(2, x.from(0));
    // UNKNOWN GLASS has no FLOW that another one, be it UNKNOWN too, could share.
    x.measure(0, numbers(900, 0, 0), 1);
    due(0, x.from(0));
    x.measure(0, numbers(105, 100, 100), 1);
    due(6, x.from(0));
    BlackGlass none = new BlackGlass();
    plain(none, 0, 1, 0);
    plain(none, 0, 2, 0);
    due(0, none.from(0));
  }

  private static void mayBeBigger() {
    about("MAY be STRUCK from: of greater SIZE");
    BlackGlass x = told(plainFlow(0, 0, 0));
    plain(x, 0, 500, 0);
    plain(x, 0, 499, 0);
    plain(x, 0, 500, 0);
    plain(x, 0, 501, 0);
    plain(x, 0, 999, 0);
    plain(x, 0, 1, 0);
    due(1 << 3 | 1 << 4, x.from(0));
    due(1 << 0 | 1 << 2 | 1 << 3 | 1 << 4, x.from(1));
    due(1 << 3 | 1 << 4, x.from(2));
    due(1 << 4, x.from(3));
    due(0, x.from(4));
    due(31, x.from(5));
    says("BLADES from which one MAY be STRUCK, by bits. UNKNOWN.");
    for (int b = 6; b < 12; b++) plain(x, 0, 1000 - b, 0);
    due(0b111111011111, x.from(5));
    due(UNKNOWN, x.from(12));
    due(UNKNOWN, x.from(-1));
    due(UNKNOWN, x.from(Integer.MAX_VALUE));
    due(UNKNOWN, x.from(Integer.MIN_VALUE));
    due(UNKNOWN, new BlackGlass().from(0));
  }

  private static void mayNotComeFromIt() {
    about("MAY be STRUCK from: not one struck from it (by others, too)");
    BlackGlass x = told(plainFlow(0, 0, 0));
    for (int b = 0; b < 12; b++) plain(x, 0, 1 + b, 0);
    due(0b111111111110, x.from(0));
    for (int b = 1; b < 12; b++) {
      x.strike(b, b - 1);
      due(0b111111111110 >> b << b & ~(1 << b), x.from(0));
    }
    due(0, x.from(0));
    // One from which it was struck itself may well be.
    BlackGlass y = told(plainFlow(0, 0, 0));
    plain(y, 0, 1, 0);
    plain(y, 0, 2, 0);
    plain(y, 0, 3, 0);
    y.strike(0, 1);
    y.strike(1, 2);
    due(6, y.from(0));
    due(4, y.from(1));
  }

  private static void mayHaveWay() {
    says("if that STRIKE were told (instead of its own), there would be a way for all.");
    BlackGlass x = coldLand();
    plain(x, 1, 9, 0);
    plain(x, 2, 5, 0);
    x.rim(0, 10, 0);
    tell(x, "place 2 0 9877 1");
    due(0, x.from(1));
    tell(x, "place 2 0 9878 1");
    due(1, x.from(1));
    tell(x, "place 2 0 9879 1");
    due(1, x.from(1));
    // One that was struck from it bounds it as well.
    plain(x, 3, 1, 0);
    x.strike(2, 1);
    tell(x, "place 3 0 9877 1");
    due(0, x.from(1));
    tell(x, "place 3 0 9878 1");
    due(1, x.from(1));
    // One from which the other was struck, too.
    BlackGlass y = coldLand();
    plain(y, 1, 9, 0);
    plain(y, 2, 5, 0);
    plain(y, 3, 1, 0);
    y.rim(0, 10, 0);
    y.strike(1, 0);
    tell(y, "place 3 0 9877 1");
    due(0, y.from(2));
    tell(y, "place 3 0 9878 1");
    due(3, y.from(2));
    // Instead of its own: with it there is no way, without it there is.
    y.strike(2, 1);
    tell(y, "place 3 0 9877 1");
    due(NONE, y.span(0, 0));
    due(0, y.from(2));
    y.undo(1);
    due(9877, y.span(1, 1));
    due(2, y.from(2));
    y.undo(2);
    y.strike(2, 0);
    due(NONE, y.span(0, 0));
    due(2, y.from(2));
    due(0, y.from(1));
    // What another one has no way for isn't mended by this one.
    y.undo(2);
    due(2, y.from(2));
    tell(y, "place 1 0 9877 1");
    due(NONE, y.span(0, 0));
    due(0, y.from(2));
    due(0, y.from(1));
  }

  private static void chainOfMost() {
    says("each but the first MAY be STRUCK from the one ahead (each by itself); of several the first (by numbers).");
    // 1 from 0 and 2 from 1 are each by itself, though not both at once: 0 is too late for 2.
    BlackGlass x = coldLand();
    plain(x, 1, 30, 0);
    plain(x, 2, 20, 0);
    plain(x, 3, 10, 0);
    x.rim(0, 10, 0);
    tell(x, "place 3 0 5000 1");
    due(1, x.from(1));
    due(2, x.from(2));
    due(3, x.chain(-1));
    for (int i = 0; i < 3; i++) due(i, x.chain(i));
    // Once the one is told, the other one has no way.
    x.strike(1, 0);
    due(2, x.chain(-1));
    due(0, x.chain(0));
    due(1, x.chain(1));
    due(10, x.chain(-2));
    // Of several the first: by the first BLADE, then by the second, ..
    BlackGlass y = told(plainFlow(0, 0, 0));
    int[] sizes = {10, 20, 20, 10, 30, 30};
    for (int size : sizes) plain(y, 0, size, 0);
    due(3, y.chain(-1));
    due(4, y.chain(0));
    due(1, y.chain(1));
    due(0, y.chain(2));
    // The longest counts ahead of the first: one of 1 by 0 is shorter.
    BlackGlass z = told(plainFlow(0, 0, 0), "flow 1 0 0 900 900 900 0");
    plain(z, 0, 50, 0);
    plain(z, 0, 40, 0);
    for (int size = 3; size > 0; size--) z.blade(0, numbers(900, 900, 900), 1, size, 0);
    due(3, z.chain(-1));
    due(2, z.chain(0));
    due(4, z.chain(2));
    due(2, z.chain(-2));
    plain(z, 0, 30, 0);
    due(3, z.chain(-1));
    due(0, z.chain(0));
    due(1, z.chain(1));
    due(5, z.chain(2));
    due(20, z.chain(-2));
  }

  private static void chainAnswers() {
    says("CHAIN: how many (what -1; 0 without BLADES), LOST on it (-2), or the i-th; NONE: there are not so many. OUTSIDE.");
    BlackGlass x = new BlackGlass();
    due(0, x.chain(-1));
    due(0, x.chain(-2));
    due(NONE, x.chain(0));
    due(NONE, x.chain(11));
    due(NONE, x.chain(Integer.MAX_VALUE));
    due(OUTSIDE, x.chain(-3));
    due(OUTSIDE, x.chain(Integer.MIN_VALUE));
    plain(x, 0, 7, 0);
    due(1, x.chain(-1));
    due(0, x.chain(-2));
    due(0, x.chain(0));
    due(NONE, x.chain(1));
    due(OUTSIDE, x.chain(-3));
    tell(x, plainFlow(0, 0, 0));
    for (int b = 1; b < 12; b++) {
      plain(x, 0, 7 + 10 * b, 0);
      due(b + 1, x.chain(-1));
      due(10 * b, x.chain(-2));
      due(b, x.chain(0));
      due(0, x.chain(b));
      due(NONE, x.chain(b + 1));
    }
    due(NONE, x.chain(12));
    due(NONE, x.chain(13));
    due(NONE, x.chain(1000));
    due(NONE, x.chain(Integer.MAX_VALUE));
    due(OUTSIDE, x.chain(-3));
    due(OUTSIDE, x.chain(-4));
    says("LOST on it: SIZE of the first less that of the last.");
    BlackGlass y = told(plainFlow(0, 0, 0));
    plain(y, 0, 999, 0);
    due(0, y.chain(-2));
    plain(y, 0, 1, 0);
    due(998, y.chain(-2));
    plain(y, 0, 998, 0);
    due(3, y.chain(-1));
    due(998, y.chain(-2));
    // Without a way for the YEARS nobody may come from anybody: the first BLADE alone.
    tell(y, "place 1 0 5 1");
    plain(y, 1, 5, 0);
    y.rim(3, 1, 0);
    due(1, y.chain(-1));
    due(0, y.chain(0));
    due(0, y.chain(-2));
    due(NONE, y.chain(1));
  }
}
