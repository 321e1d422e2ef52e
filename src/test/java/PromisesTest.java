/** For each promise of the document: ordinary inputs, the edges that it names, wrong inputs. */
public final class PromisesTest extends Sheet {
  private static void begin(int number) {
    about("promise " + number);
  }

  public static void main(String[] args) {
    newObject();
    writing();
    erasing();
    faults();
    landing();
    places();
    flows();
    ways();
    blades();
    rims();
    measuring();
    ofBlades();
    offs();
    cans();
    names();
    strikes();
    undoing();
    spansByBounds();
    spansByOthers();
    heirlooms();
    froms();
    chains();
    legs();
    reaches();
    boats();
    seas();
    nexts();
    counts();
    misses();
    laws();
    dates();
    learning();
    counting();
    numbersZero();
    fullObject();
    finish();
  }

  private static void newObject() {
    begin(1);
    BlackGlass x = new BlackGlass();
    for (int p = 0; p < 10; p++) {
      due(0, x.place(p, 0));
      due(9999, x.place(p, 1));
      due(100, x.place(p, 2));
      for (int q = 0; q < 10; q++) {
        due(p == q ? UNKNOWN : 0, x.way(p, q, 0));
        due(p == q ? UNKNOWN : 0, x.way(p, q, 1));
      }
    }
    for (int f = 0; f < 9; f++) due(UNKNOWN, x.flow(f, 0));
    for (int b = 0; b < 12; b++) due(UNKNOWN, x.of(b, 0));
    due(0, x.count(0));
    due(0, x.count(1));
    due(0, x.count(2));
    due(20, x.count(3));
    due(30, x.count(4));
    due(0, x.count(5));
    due(-1, BlackGlass.NONE);
    due(-2, BlackGlass.UNKNOWN);
    due(-3, BlackGlass.OUTSIDE);
    due(-4, BlackGlass.NOT);
    due(-5, BlackGlass.FULL);
    BlackGlass other = new BlackGlass();
    tell(other, plainFlow(0, 0, 0));
    plain(other, 0, 1, 1);
    due(0, x.count(0));
    due(0, x.count(2));
  }

  private static void writing() {
    begin(2);
    BlackGlass x = new BlackGlass();
    due(OUTSIDE, x.write(0, 0));
    due(OUTSIDE, x.write(0, 9));
    for (int w : WILD) due(OUTSIDE, x.write(0, w));
    due(0, x.count(1));
    // "near 7" with other bits behind the six bytes, which don't count.
    due(6, x.write(0x7F7F372072616566L & ~0xFFFFFFFFL | 0x7261656EL, 6));
    due(NONE, x.fault());
    due(1, x.land());
    due(7, x.count(3));
    due(1, x.write(-1L, 1));
    due(9, x.write(-1L, 8));
    due(0, x.fault());
    x.erase();
    for (int i = 1; i <= 24; i++) due(8 * i, x.write(0x2020202020202020L, 8));
    due(193, x.write(32, 1));
    due(FULL, x.write(32, 8));
    due(193, x.count(1));
    due(200, x.write(0x2020202020202020L, 7));
    due(FULL, x.write(32, 1));
    due(OUTSIDE, x.write(32, 0));
    due(OUTSIDE, x.write(32, 9));
    due(200, x.fault());
  }

  private static void erasing() {
    begin(3);
    BlackGlass x = new BlackGlass();
    due(0, x.erase());
    write(x, "near 5;far 6");
    due(12, x.erase());
    due(0, x.count(1));
    due(0, x.erase());
    due(NOT, x.land());
    due(20, x.count(3));
    write(x, "far 1");
    due(1, x.land());
    due(0, x.erase());
    due(1, x.count(4));
  }

  private static void faults() {
    begin(4);
    fault(0, "");
    fault(3, "   ");
    fault(4, "near");
    fault(5, "near ");
    fault(NONE, "near 5");
    fault(NONE, "near5");
    fault(NONE, "  near  5  ");
    fault(NONE, "near 0");
    fault(NONE, "near 999");
    fault(NONE, "near 0999");
    fault(5, "near 1000");
    fault(5, "near 00999");
    fault(5, "near 99999999999999999999");
    fault(5, "near -1");
    fault(5, "near near");
    fault(5, "near ;");
    fault(0, "nea 5");
    fault(0, "nearx 5");
    fault(0, "nearfar 5");
    fault(0, "Near 5");
    fault(0, "5 near");
    fault(0, ";");
    fault(2, "  ;");
    fault(7, "near 5 5");
    fault(7, "near 5 far 6");
    fault(6, "near 5far 6");
    fault(6, "near 5.");
    fault(6, "near 5\t");
    fault(4, "near\t5");
    fault(4, "near\0005");
    fault(4, "near\u00e95");
    fault(6, "near 5\u00a0");
    fault(7, "near 5;");
    fault(9, "near 5;  ");
    fault(7, "near 5;;far 5");
    fault(7, "near 5;nearer 6");
    fault(NONE, "near 5;far 6");
    fault(NONE, "near 5 ; far 6");
    fault(NONE, "far 0");
    fault(4, "far 1000");
    manyLines();
    placeFaults();
    flowFaults();
    wayFaults();
  }

  private static void manyLines() {
    String seven = "far1;far2;far3;far4;far5;far6;far7";
    fault(NONE, seven + ";far8");
    fault(NONE, seven + ";far8 ");
    fault(39, seven + ";far8;");
    fault(39, seven + ";far8;far9");
    fault(40, seven + ";far8 ;far9");
    fault(39, seven + ";far8x");
    fault(35, seven + ";");
  }

  private static void placeFaults() {
    fault(NONE, "place 0 0 0 1");
    fault(NONE, "place 9 9999 9999 999");
    fault(NONE, "place 3 5 6 7;place 3 5 6 7");
    fault(NONE, "place0003 0005 0006 0007");
    fault(6, "place 10 0 0 1");
    fault(8, "place 1 10000 0 1");
    fault(10, "place 1 0 10000 1");
    fault(10, "place 1 5 4 1");
    fault(NONE, "place 1 5 5 1");
    fault(12, "place 1 0 0 0");
    fault(12, "place 1 0 0 1000");
    fault(12, "place 1 0 0 ");
    fault(13, "place 1 0 0 9;".substring(0, 13) + "x");
    fault(14, "place 1 0 0 9 9");
    fault(5, "place;");
  }

  private static void flowFaults() {
    fault(NONE, "flow 0 0 0 0 0 0 0");
    fault(NONE, "flow 8 9 9999 999 999 999 99");
    fault(5, "flow 9 0 0 0 0 0 0");
    fault(7, "flow 0 10 0 0 0 0 0");
    fault(9, "flow 0 0 10000 0 0 0 0");
    fault(11, "flow 0 0 0 1000 0 0 0");
    fault(13, "flow 0 0 0 0 1000 0 0");
    fault(15, "flow 0 0 0 0 0 1000 0");
    fault(17, "flow 0 0 0 0 0 0 100");
    fault(16, "flow 0 0 0 0 0 0");
    fault(19, "flow 0 0 0 0 0 0 0 0");
    fault(NONE, "flow 5 5 3 2 1 0 0");
  }

  private static void wayFaults() {
    fault(NONE, "land 0 9 999");
    fault(NONE, "boat 9 0 0");
    fault(5, "land 10 0 1");
    fault(7, "land 0 10 1");
    fault(7, "land 4 4 1");
    fault(7, "boat 4 0004 1");
    fault(9, "land 0 1 1000");
    fault(9, "boat 0 1 1000");
    fault(8, "boat 0 1");
    fault(11, "boat 0 1 5 5");
  }

  private static void landing() {
    begin(5);
    BlackGlass x = new BlackGlass();
    due(NOT, x.land());
    write(x, "near 5;far 6;");
    due(NOT, x.land());
    due(20, x.count(3));
    due(30, x.count(4));
    due(13, x.count(1));
    write(x, "near 7");
    due(3, x.land());
    due(7, x.count(3));
    due(6, x.count(4));
    due(0, x.count(1));
    due(NOT, x.land());
    tell(x, "land 0 1 5;boat 0 1 6;land 1 0 0");
    due(0, x.way(0, 1, 0));
    due(6, x.way(0, 1, 1));
    tell(x, "land 2 3 9");
    due(6, x.way(1, 0, 1));
    due(7, x.count(3));
    write(x, "far1;far2;far3;far4;far5;far6;far7;far8");
    due(8, x.land());
    due(8, x.count(4));
  }

  private static void places() {
    begin(6);
    BlackGlass x = told("place 9 12 3456 78");
    due(12, x.place(9, 0));
    due(3456, x.place(9, 1));
    due(78, x.place(9, 2));
    due(9999, x.place(8, 1));
    due(OUTSIDE, x.place(9, 3));
    for (int w : WILD) {
      due(UNKNOWN, x.place(w, 0));
      due(UNKNOWN, x.place(w, 3));
      due(OUTSIDE, x.place(0, w));
    }
    due(UNKNOWN, x.place(10, 0));
    tell(x, "place 9 0 0 1");
    due(0, x.place(9, 1));
    due(1, x.place(9, 2));
  }

  private static void flows() {
    begin(7);
    BlackGlass x = told("flow 8 7 6 5 4 3 2");
    int[] want = {7, 6, 5, 4, 3, 2};
    for (int w = 0; w < 6; w++) due(want[w], x.flow(8, w));
    due(OUTSIDE, x.flow(8, 6));
    due(UNKNOWN, x.flow(7, 0));
    due(UNKNOWN, x.flow(7, 6));
    due(UNKNOWN, x.flow(9, 0));
    for (int w : WILD) {
      due(UNKNOWN, x.flow(w, 0));
      due(OUTSIDE, x.flow(8, w));
    }
    tell(x, "flow 8 1 2 3 4 5 6;flow 0 9 9 9 9 9 9");
    for (int w = 0; w < 6; w++) due(w + 1, x.flow(8, w));
    for (int w = 0; w < 6; w++) due(9, x.flow(0, w));
    due(2, x.count(0));
  }

  private static void ways() {
    begin(8);
    BlackGlass x = told("land 0 9 999;boat 9 0 1;boat 3 4 7");
    due(999, x.way(0, 9, 0));
    due(999, x.way(9, 0, 0));
    due(1, x.way(0, 9, 1));
    due(1, x.way(9, 0, 1));
    due(0, x.way(3, 4, 0));
    due(7, x.way(4, 3, 1));
    due(UNKNOWN, x.way(3, 3, 0));
    due(UNKNOWN, x.way(3, 3, 5));
    due(UNKNOWN, x.way(3, 10, 0));
    due(UNKNOWN, x.way(10, 3, 0));
    due(OUTSIDE, x.way(3, 4, 2));
    for (int w : WILD) {
      due(UNKNOWN, x.way(w, 3, 0));
      due(UNKNOWN, x.way(3, w, 0));
      due(OUTSIDE, x.way(3, 4, w));
    }
    tell(x, "boat 4 3 0");
    due(0, x.way(3, 4, 1));
  }

  private static void blades() {
    begin(9);
    BlackGlass x = new BlackGlass();
    due(0, x.blade(9, numbers(999, 0, 999), 99, 999, 99));
    due(1, x.blade(0, numbers(0, 999, 0), 1, 1, 0));
    due(UNKNOWN, x.blade(10, 0, 1, 1, 0));
    due(UNKNOWN, x.blade(-1, -1, 0, 0, -1));
    due(OUTSIDE, x.blade(0, numbers(1000, 0, 0), 1, 1, 0));
    due(OUTSIDE, x.blade(0, numbers(0, 1000, 0), 1, 1, 0));
    due(OUTSIDE, x.blade(0, numbers(0, 0, 1000), 1, 1, 0));
    due(OUTSIDE, x.blade(0, 0, 0, 1, 0));
    due(OUTSIDE, x.blade(0, 0, 100, 1, 0));
    due(OUTSIDE, x.blade(0, 0, 1, 0, 0));
    due(OUTSIDE, x.blade(0, 0, 1, 1000, 0));
    due(OUTSIDE, x.blade(0, 0, 1, 1, -1));
    due(OUTSIDE, x.blade(0, 0, 1, 1, 100));
    for (int w : WILD) {
      due(UNKNOWN, x.blade(w, 0, 1, 1, 0));
      due(OUTSIDE, x.blade(0, 0, w, 1, 0));
      due(OUTSIDE, x.blade(0, 0, 1, w, 0));
      due(OUTSIDE, x.blade(0, 0, 1, 1, w));
    }
    due(2, x.count(2));
    for (int b = 2; b < 12; b++) due(b, x.blade(0, 0, 1, 1, 0));
    due(FULL, x.blade(0, 0, 1, 1, 0));
    due(OUTSIDE, x.blade(0, 0, 0, 1, 0));
    due(UNKNOWN, x.blade(10, 0, 1, 1, 0));
    due(12, x.count(2));
    due(0, x.of(11, 7));
    due(0, x.of(11, 8));
    due(NONE, x.of(11, 9));
  }

  private static void rims() {
    begin(10);
    BlackGlass x = new BlackGlass();
    due(UNKNOWN, x.rim(0, 1, 0));
    plain(x, 0, 1, 0);
    due(1, x.rim(0, 999, 998));
    due(999, x.of(0, 7));
    due(998, x.of(0, 8));
    due(OUTSIDE, x.rim(0, 999, 999));
    due(OUTSIDE, x.rim(0, 1000, 0));
    due(OUTSIDE, x.rim(0, 1000, 5));
    due(OUTSIDE, x.rim(0, -1, 0));
    due(OUTSIDE, x.rim(0, 5, -1));
    due(OUTSIDE, x.rim(0, 5, 6));
    due(OUTSIDE, x.rim(0, 0, 1));
    due(OUTSIDE, x.rim(0, 1, 1));
    due(UNKNOWN, x.rim(1, -1, -1));
    for (int w : WILD) {
      due(UNKNOWN, x.rim(w, 1, 0));
      due(OUTSIDE, x.rim(0, w, 0));
      due(OUTSIDE, x.rim(0, w, 1));
      due(OUTSIDE, x.rim(0, 999, w));
    }
    due(999, x.of(0, 7));
    due(998, x.of(0, 8));
    due(1, x.rim(0, 2, 1));
    due(1, x.of(0, 8));
    due(1, x.rim(0, 0, 0));
    due(0, x.of(0, 7));
    due(0, x.of(0, 8));
  }

  private static void measuring() {
    begin(11);
    BlackGlass x = new BlackGlass();
    due(UNKNOWN, x.measure(0, 0, 1));
    x.blade(1, numbers(1, 2, 3), 4, 5, 6);
    due(4, x.measure(0, numbers(7, 8, 9), 99));
    due(7, x.of(0, 1));
    due(8, x.of(0, 2));
    due(9, x.of(0, 3));
    due(99, x.of(0, 4));
    due(OUTSIDE, x.measure(0, 0, 0));
    due(OUTSIDE, x.measure(0, 0, 100));
    due(OUTSIDE, x.measure(0, numbers(0, 0, 1000), 1));
    due(UNKNOWN, x.measure(1, -1, 0));
    for (int w : WILD) {
      due(UNKNOWN, x.measure(w, 0, 1));
      due(OUTSIDE, x.measure(0, 0, w));
    }
    due(7, x.of(0, 1));
    due(99, x.measure(0, numbers(999, 999, 999), 1));
    due(999, x.of(0, 3));
    due(5, x.of(0, 5));
  }

  private static void ofBlades() {
    begin(12);
    BlackGlass x = new BlackGlass();
    x.blade(9, numbers(10, 20, 30), 40, 50, 60);
    x.blade(8, numbers(11, 21, 31), 41, 51, 61);
    x.rim(1, 70, 60);
    x.strike(1, 0);
    int[] first = {9, 10, 20, 30, 40, 50, 60, 0, 0, NONE};
    int[] second = {8, 11, 21, 31, 41, 51, 61, 70, 60, 0};
    for (int w = 0; w < 10; w++) {
      due(first[w], x.of(0, w));
      due(second[w], x.of(1, w));
    }
    due(OUTSIDE, x.of(0, 10));
    due(UNKNOWN, x.of(2, 0));
    due(UNKNOWN, x.of(2, 10));
    for (int w : WILD) {
      due(UNKNOWN, x.of(w, 0));
      due(OUTSIDE, x.of(0, w));
    }
  }

  private static void offs() {
    begin(13);
    BlackGlass x = told("flow 0 0 0 100 200 300 4;flow 5 0 0 0 0 0 0;flow 8 0 0 999 999 999 99");
    x.blade(0, numbers(103, 190, 305), 3, 1, 0);
    due(14, x.off(0, 0));
    due(1016, x.off(0, 5));
    due(87, x.off(0, 8));
    x.measure(0, numbers(100, 200, 300), 1);
    due(0, x.off(0, 0));
    x.measure(0, numbers(999, 999, 999), 1);
    due(9990, x.off(0, 5));
    due(UNKNOWN, x.off(0, 1));
    due(UNKNOWN, x.off(0, 9));
    due(UNKNOWN, x.off(1, 0));
    for (int w : WILD) {
      due(UNKNOWN, x.off(w, 0));
      due(UNKNOWN, x.off(0, w));
    }
  }

  private static void cans() {
    begin(14);
    BlackGlass x = told("flow 0 0 0 100 100 100 0;flow 8 0 0 104 100 100 0;near 20");
    x.blade(0, numbers(102, 100, 100), 1, 1, 0);
    due(257, x.can(0));
    x.measure(0, numbers(101, 100, 100), 1);
    due(1, x.can(0));
    x.measure(0, numbers(107, 100, 100), 1);
    due(0, x.can(0));
    tell(x, "near 30");
    due(256, x.can(0));
    tell(x, "near 0");
    due(0, x.can(0));
    x.measure(0, numbers(104, 100, 100), 1);
    due(256, x.can(0));
    due(UNKNOWN, x.can(1));
    for (int w : WILD) due(UNKNOWN, x.can(w));
    BlackGlass none = new BlackGlass();
    plain(none, 0, 1, 0);
    due(0, none.can(0));
  }

  private static void names() {
    begin(15);
    BlackGlass x = told("flow 2 0 0 100 100 100 0;flow 3 0 0 105 100 100 0;near 20;far 30");
    x.blade(0, numbers(102, 100, 100), 1, 1, 0);
    due(2, x.named(0));
    tell(x, "far 31");
    due(NONE, x.named(0));
    // Its own FLOW may be FAR off: NEAR counts.
    tell(x, "far 20");
    due(2, x.named(0));
    tell(x, "far 0");
    due(2, x.named(0));
    tell(x, "near 30");
    due(NONE, x.named(0));
    tell(x, "near 1");
    due(NONE, x.named(0));
    due(UNKNOWN, x.named(1));
    for (int w : WILD) due(UNKNOWN, x.named(w));
    BlackGlass one = told("flow 8 0 0 100 100 100 0;far 999");
    plain(one, 0, 1, 0);
    due(8, one.named(0));
  }

  private static void strikes() {
    begin(16);
    BlackGlass x = new BlackGlass();
    for (int b = 0; b < 5; b++) plain(x, 0, 1, 0);
    due(1, x.strike(1, 0));
    due(1, x.strike(2, 1));
    due(1, x.strike(3, 2));
    due(NOT, x.strike(3, 2));
    due(NOT, x.strike(3, 4));
    due(NOT, x.strike(0, 1));
    due(NOT, x.strike(0, 3));
    due(1, x.strike(0, 4));
    due(NOT, x.strike(4, 3));
    due(UNKNOWN, x.strike(4, 4));
    due(UNKNOWN, x.strike(1, 1));
    due(UNKNOWN, x.strike(5, 4));
    due(UNKNOWN, x.strike(1, 5));
    for (int w : WILD) {
      due(UNKNOWN, x.strike(w, 0));
      due(UNKNOWN, x.strike(1, w));
    }
    due(4, x.of(0, 9));
    due(0, x.of(1, 9));
    due(NONE, x.of(4, 9));
    due(4, x.count(5));
    due(0, x.undo(1));
    due(1, x.strike(4, 1));
    due(4, x.count(5));
  }

  private static void undoing() {
    begin(17);
    BlackGlass x = new BlackGlass();
    due(UNKNOWN, x.undo(0));
    for (int b = 0; b < 3; b++) plain(x, 0, 1, 0);
    due(NONE, x.undo(1));
    x.strike(1, 2);
    due(NONE, x.undo(2));
    due(2, x.undo(1));
    due(NONE, x.of(1, 9));
    due(NONE, x.undo(1));
    due(0, x.count(5));
    due(1, x.strike(2, 1));
    due(UNKNOWN, x.undo(3));
    for (int w : WILD) due(UNKNOWN, x.undo(w));
  }

  private static void spansByBounds() {
    begin(18);
    BlackGlass x = new BlackGlass();
    due(UNKNOWN, x.span(0, 0));
    plain(x, 1, 1, 0);
    spans(x, 0, 0, 9999, NONE, NONE, 0, 9999);
    due(OUTSIDE, x.span(0, 6));
    for (int w : WILD) {
      due(UNKNOWN, x.span(w, 0));
      due(OUTSIDE, x.span(0, w));
    }
    tell(x, "place 1 2000 3000 10");
    spans(x, 0, 0, 3000, NONE, NONE, 2000, 3000);
    tell(x, plainFlow(0, 0, 2500));
    spans(x, 0, 2500, 3000, NONE, NONE, 2500, 3000);
    tell(x, plainFlow(1, 0, 500));
    spans(x, 0, 500, 3000, NONE, NONE, 2000, 3000);
    // 271 and 273 times themselves are 73441 and 74529: 7344 to 7452 years ago.
    x.rim(0, 272, 0);
    spans(x, 0, 2547, 2655, NONE, NONE, 2547, 3000);
    // 265 and 267: 70225 and 71289, so 7022 to 7128 years ago.
    x.rim(0, 272, 266);
    spans(x, 0, 2547, 2655, 2871, 2977, 2871, 3000);
    x.rim(0, 272, 271);
    spans(x, 0, 2547, 2655, 2601, 2709, 2601, 3000);
    tell(x, "place 1 0 2620 10");
    spans(x, 0, 2547, 2620, 2601, 2620, 2601, 2620);
    tell(x, "place 1 0 2600 10");
    spans(x, 0, NONE, NONE, NONE, NONE, NONE, NONE);
    tell(x, "place 1 0 9999 1");
    spans(x, 0, NONE, NONE, NONE, NONE, NONE, NONE);
    tell(x, "flow 0 0 0 100 100 100 0");
    spans(x, 0, 0, 0, 0, 0, 0, 9999);
    tell(x, "place 1 0 9999 999");
    x.rim(0, 1, 0);
    spans(x, 0, 9999, 9999, NONE, NONE, 9999, 9999);
    x.rim(0, 32, 0);
    spans(x, 0, 9998, 9999, NONE, NONE, 9998, 9999);
  }

  private static void spansByOthers() {
    BlackGlass x = told("place 0 1000 5000 10;place 1 1000 5000 10");
    plain(x, 0, 9, 5);
    plain(x, 0, 8, 4);
    plain(x, 1, 7, 3);
    plain(x, 0, 6, 5);
    // 229 and 231: 52441 and 53361, so 5244 to 5336 years ago.
    x.rim(0, 230, 0);
    spans(x, 0, 4663, 4755, NONE, NONE, 4663, 5000);
    spans(x, 1, 0, 5000, NONE, NONE, 4663, 5000);
    spans(x, 2, 0, 5000, NONE, NONE, 1000, 5000);
    spans(x, 3, 0, 5000, NONE, NONE, 1000, 5000);
    x.strike(2, 0);
    spans(x, 2, 4663, 5000, NONE, NONE, 4663, 5000);
    x.strike(3, 2);
    spans(x, 3, 4663, 5000, NONE, NONE, 4663, 5000);
    spans(x, 0, 4663, 4755, NONE, NONE, 4663, 5000);
    x.undo(2);
    spans(x, 3, 0, 5000, NONE, NONE, 1000, 5000);
    x.strike(0, 2);
    spans(x, 2, 0, 4755, NONE, NONE, 1000, 5000);
    x.strike(2, 1);
    spans(x, 1, 0, 4755, NONE, NONE, 4663, 5000);
    tell(x, "place 1 1000 3000 10");
    spans(x, 1, 0, 3000, NONE, NONE, 4663, 5000);
    spans(x, 2, 0, 3000, NONE, NONE, 1000, 3000);
    x.undo(0);
    x.strike(0, 3);
    x.undo(3);
    x.rim(2, 270, 0);
    // 269 and 271: 72361 and 73441, so 7236 to 7344 years ago.
    spans(x, 1, 0, 2763, NONE, NONE, 4663, 5000);
    x.undo(2);
    x.strike(2, 0);
    for (int b = 0; b < 4; b++) spans(x, b, NONE, NONE, NONE, NONE, NONE, NONE);
    x.undo(2);
    spans(x, 2, 2655, 2763, NONE, NONE, 2655, 3000);
    tell(x, "place 0 0 9999 100;place 5 7 8 9");
    plain(x, 5, 1, 0);
    x.rim(4, 1, 0);
    for (int b = 0; b < 5; b++) due(NONE, x.span(b, 4));
  }

  private static void heirlooms() {
    begin(19);
    BlackGlass x = told("place 1 3000 4000 10", plainFlow(0, 0, 1000));
    due(UNKNOWN, x.heirloom(0));
    plain(x, 1, 1, 0);
    due(1, x.heirloom(0));
    // 7344 to 7452 years ago: 2547 to 2655.
    x.rim(0, 272, 0);
    due(2, x.heirloom(0));
    tell(x, "place 1 2655 4000 10");
    due(1, x.heirloom(0));
    tell(x, "place 1 2656 4000 10");
    due(2, x.heirloom(0));
    tell(x, "place 1 0 2547 10");
    due(0, x.heirloom(0));
    tell(x, "place 1 0 2548 10");
    due(1, x.heirloom(0));
    tell(x, "place 1 0 2546 10");
    due(NONE, x.heirloom(0));
    // Struck again 2601 to 2709.
    tell(x, "place 1 2656 4000 10");
    x.rim(0, 272, 271);
    due(1, x.heirloom(0));
    tell(x, "place 1 2710 4000 10");
    due(2, x.heirloom(0));
    tell(x, "place 1 0 2601 10");
    due(0, x.heirloom(0));
    due(UNKNOWN, x.heirloom(1));
    for (int w : WILD) due(UNKNOWN, x.heirloom(w));
  }

  private static void froms() {
    begin(20);
    BlackGlass x = told(plainFlow(0, 0, 0), "flow 1 0 0 500 500 500 0", "place 1 0 9999 10");
    due(UNKNOWN, x.from(0));
    plain(x, 0, 10, 0);
    plain(x, 0, 20, 0);
    plain(x, 0, 20, 0);
    x.blade(0, numbers(500, 500, 500), 1, 30, 0);
    x.blade(0, numbers(900, 0, 0), 1, 40, 0);
    x.blade(0, numbers(900, 0, 0), 1, 50, 0);
    plain(x, 1, 60, 0);
    due(1 << 1 | 1 << 2 | 1 << 6, x.from(0));
    due(1 << 6, x.from(1));
    due(0, x.from(3));
    due(0, x.from(4));
    due(0, x.from(6));
    // One struck from it, by others, too, can't be it.
    x.strike(1, 0);
    due(1 << 2 | 1 << 6, x.from(0));
    x.strike(6, 1);
    due(1 << 2, x.from(0));
    due(0, x.from(1));
    due(0, x.from(6));
    x.undo(6);
    due(1 << 6, x.from(1));
    x.undo(1);
    // 6 was struck in 2547 to 2655, 0 in 0 to 2546: they don't meet, at 2547 they do.
    x.rim(6, 272, 0);
    due(1 << 1 | 1 << 2 | 1 << 6, x.from(0));
    tell(x, "place 2 0 2546 10");
    plain(x, 2, 5, 0);
    due(1 << 0 | 1 << 1 | 1 << 2, x.from(7));
    tell(x, "place 2 0 2547 10");
    due(1 << 0 | 1 << 1 | 1 << 2 | 1 << 6, x.from(7));
    // Its own STRIKE is put aside: 7 from 6 has no way now, from others it has.
    x.strike(7, 6);
    tell(x, "place 2 0 2546 10");
    due(NONE, x.span(0, 0));
    due(1 << 0 | 1 << 1 | 1 << 2, x.from(7));
    due(0, x.from(0));
    // One struck from it bounds it, too.
    x.undo(7);
    x.strike(7, 0);
    due(1 << 1 | 1 << 2, x.from(0));
    due(UNKNOWN, x.from(8));
    for (int w : WILD) due(UNKNOWN, x.from(w));
  }

  private static void chains() {
    begin(21);
    BlackGlass x = new BlackGlass();
    due(0, x.chain(-1));
    due(0, x.chain(-2));
    due(NONE, x.chain(0));
    due(OUTSIDE, x.chain(-3));
    due(OUTSIDE, x.chain(Integer.MIN_VALUE));
    due(NONE, x.chain(Integer.MAX_VALUE));
    plain(x, 0, 30, 0);
    plain(x, 0, 50, 0);
    due(1, x.chain(-1));
    due(0, x.chain(0));
    due(NONE, x.chain(1));
    due(0, x.chain(-2));
    tell(x, plainFlow(0, 0, 0));
    due(2, x.chain(-1));
    due(1, x.chain(0));
    due(0, x.chain(1));
    due(20, x.chain(-2));
    plain(x, 0, 50, 0);
    plain(x, 0, 30, 0);
    plain(x, 0, 10, 0);
    plain(x, 0, 10, 0);
    due(3, x.chain(-1));
    due(1, x.chain(0));
    due(0, x.chain(1));
    due(4, x.chain(2));
    due(NONE, x.chain(3));
    due(40, x.chain(-2));
    // Each by itself: a STRIKE told the other way puts an end to one link alone.
    x.strike(1, 0);
    due(3, x.chain(-1));
    due(1, x.chain(0));
    due(3, x.chain(1));
    x.strike(2, 0);
    x.strike(0, 3);
    due(2, x.chain(-1));
    due(0, x.chain(0));
    due(4, x.chain(1));
    due(20, x.chain(-2));
  }

  private static void legs() {
    begin(22);
    BlackGlass x = told(plainFlow(0, 0, 0), "land 0 1 10;land 1 2 10;land 0 2 50;boat 2 3 5;boat 0 3 7;land 3 4 1;boat 0 1 4;land 0 3 90",
        "place 0 5000 5000 1;place 1 10 20 1;place 2 10 30 1;place 3 15 40 1");
    plain(x, 2, 1, 0);
    plain(x, 0, 1, 0);
    plain(x, 3, 1, 0);
    plain(x, 9, 1, 0);
    due(1, x.legs(0, 0, 10, false, 0));
    due(20, x.legs(0, 0, 10, false, 1));
    due(14, x.legs(0, 0, 10, true, 1));
    due(12, x.legs(0, 0, 15, true, 1));
    due(1, x.legs(0, 0, 15, true, 0));
    due(50, x.legs(0, 0, 21, false, 1));
    due(NONE, x.legs(0, 0, 9, true, 0));
    due(NONE, x.legs(0, 0, 31, true, 1));
    // There already: the first PLACE need not be LIVE.
    due(0, x.legs(1, 0, 0, false, 0));
    due(0, x.legs(1, 0, 0, true, 1));
    due(90, x.legs(2, 0, 15, false, 1));
    due(7, x.legs(2, 0, 15, true, 1));
    due(1, x.legs(2, 0, 40, true, 0));
    due(NONE, x.legs(2, 0, 41, true, 0));
    due(NONE, x.legs(3, 0, 15, true, 0));
    tell(x, "land 0 3 0;land 4 9 2");
    due(NONE, x.legs(2, 0, 15, false, 0));
    due(3, x.legs(3, 0, 15, true, 0));
    due(10, x.legs(3, 0, 15, true, 1));
    due(OUTSIDE, x.legs(0, 0, 10000, true, 0));
    due(OUTSIDE, x.legs(0, 0, 0, true, 2));
    due(UNKNOWN, x.legs(4, 0, -1, true, 2));
    due(UNKNOWN, x.legs(0, 1, -1, true, 2));
    for (int w : WILD) {
      due(UNKNOWN, x.legs(w, 0, 0, true, 0));
      due(UNKNOWN, x.legs(0, w, 0, true, 0));
      due(OUTSIDE, x.legs(0, 0, w, true, 0));
      due(OUTSIDE, x.legs(0, 0, 0, true, w));
    }
    BlackGlass row = told(plainFlow(0, 0, 0), "land 0 1 999;land 1 2 999;land 2 3 999;land 3 4 999", "land 4 5 999;land 5 6 999;land 6 7 999;land 7 8 999;land 8 9 999");
    plain(row, 9, 1, 0);
    due(9, row.legs(0, 0, 0, false, 0));
    due(8991, row.legs(0, 0, 9999, false, 1));
  }

  private static void reaches() {
    begin(23);
    BlackGlass x = told(plainFlow(0, 0, 100), "land 0 1 1;land 1 2 1;boat 0 2 1;land 0 3 1;land 3 2 1", "place 1 500 600 1;place 2 50 700 1;place 3 650 9999 1");
    plain(x, 2, 1, 0);
    due(500, x.reach(0, 0, false, 0));
    due(2, x.reach(0, 0, false, 1));
    due(100, x.reach(0, 0, true, 0));
    due(1, x.reach(0, 0, true, 1));
    tell(x, "place 1 50 99 1");
    due(650, x.reach(0, 0, false, 0));
    tell(x, plainFlow(0, 0, 99));
    due(99, x.reach(0, 0, false, 0));
    tell(x, plainFlow(0, 0, 701));
    due(NONE, x.reach(0, 0, true, 0));
    tell(x, plainFlow(0, 0, 700));
    due(700, x.reach(0, 0, true, 0));
    due(2, x.reach(0, 0, false, 1));
    // A FLOW that it can't be of may be asked for, from its own OPEN on.
    tell(x, "flow 1 1 80 900 900 900 0;flow 0 0 60 100 100 100 0");
    due(80, x.reach(0, 1, false, 0));
    due(1, x.reach(0, 1, false, 1));
    // Fewer LEGS come later, and are lost again.
    tell(x, "place 4 200 300 1;land 0 4 1;land 4 2 1;boat 0 2 0;land 0 5 1;land 5 6 1;land 6 2 1");
    tell(x, "place 1 9999 9999 1;place 3 9999 9999 1");
    due(60, x.reach(0, 0, false, 0));
    due(2, x.reach(0, 0, false, 1));
    tell(x, "place 4 301 302 1;place 2 50 300 1");
    due(3, x.reach(0, 0, false, 1));
    // The earliest STRUCK counts: 9999 less 961 by 10 is 9903.
    tell(x, "place 2 50 9999 10;place 4 9950 9999 1");
    x.rim(0, 30, 0);
    due(9903, x.reach(0, 0, false, 0));
    due(2, x.reach(0, 0, false, 1));
    tell(x, "place 2 50 60 10");
    due(NONE, x.reach(0, 0, false, 0));
    due(OUTSIDE, x.reach(0, 0, false, 2));
    due(UNKNOWN, x.reach(0, 2, false, 2));
    due(UNKNOWN, x.reach(1, 0, false, 2));
    for (int w : WILD) {
      due(UNKNOWN, x.reach(w, 0, false, 0));
      due(UNKNOWN, x.reach(0, w, false, 0));
      due(OUTSIDE, x.reach(0, 0, true, w));
    }
    BlackGlass there = told(plainFlow(0, 4, 77), "place 4 100 200 1");
    plain(there, 4, 1, 0);
    due(77, there.reach(0, 0, false, 0));
    due(0, there.reach(0, 0, false, 1));
  }

  private static void boats() {
    begin(24);
    BlackGlass x = new BlackGlass();
    due(0, x.boats());
    tell(x, plainFlow(0, 0, 100) + ";boat 0 1 1");
    plain(x, 1, 1, 0);
    plain(x, 2, 1, 0);
    x.blade(1, numbers(900, 0, 0), 1, 1, 0);
    plain(x, 0, 1, 0);
    due(1, x.boats());
    // Another FLOW from which one can go by LAND.
    tell(x, "land 1 2 1;flow 1 2 5000 100 100 100 0");
    due(0, x.boats());
    tell(x, "flow 1 2 5000 103 100 100 0");
    due(3, x.boats());
    // Another FLOW from which there is no way at all.
    tell(x, "flow 1 5 5000 100 100 100 0");
    due(3, x.boats());
    // By LAND in one YEAR of them only, at the end of all.
    tell(x, "land 0 3 1;land 3 1 1;place 3 9999 9999 1");
    due(0, x.boats());
    tell(x, "place 1 0 9998 1");
    due(3, x.boats());
    tell(x, "place 1 0 9999 1;place 3 0 100 1");
    due(0, x.boats());
    tell(x, "place 3 0 99 1");
    due(3, x.boats());
    // Without a way for the YEARS there is none for the BLADES.
    x.rim(3, 1, 0);
    tell(x, "place 0 0 9994 1");
    due(0, x.boats());
  }

  private static void seas() {
    begin(25);
    BlackGlass x = new BlackGlass();
    due(NONE, x.sea());
    tell(x, plainFlow(0, 0, 100) + ";boat 0 1 1;boat 0 2 1;land 0 3 1;place 1 50 500 10;place 2 0 400 10;place 3 100 200 10");
    plain(x, 3, 1, 0);
    due(NONE, x.sea());
    plain(x, 1, 1, 0);
    due(500, x.sea());
    plain(x, 2, 1, 0);
    due(400, x.sea());
    tell(x, "place 2 0 600 10");
    due(500, x.sea());
    tell(x, "boat 0 1 0");
    due(600, x.sea());
    tell(x, "place 1 0 99 10");
    due(NONE, x.sea());
  }

  private static void nexts() {
    begin(26);
    BlackGlass x = new BlackGlass();
    due(NONE, x.next());
    tell(x, "flow 0 0 0 100 100 100 0;flow 1 0 0 103 100 100 0;flow 2 0 0 106 100 100 0;near 20");
    x.blade(0, numbers(100, 100, 100), 1, 1, 0);
    due(NONE, x.next());
    x.blade(0, numbers(102, 100, 100), 1, 1, 0);
    due(1, x.next());
    x.blade(0, numbers(105, 100, 100), 1, 1, 0);
    due(1, x.next());
    x.measure(2, numbers(105, 100, 100), 2);
    due(2, x.next());
    x.measure(1, numbers(102, 100, 100), 2);
    due(1, x.next());
    x.measure(0, numbers(102, 100, 100), 3);
    due(0, x.next());
    x.measure(1, numbers(102, 100, 100), 1);
    x.measure(0, numbers(900, 0, 0), 1);
    due(2, x.next());
  }

  private static void counts() {
    begin(27);
    BlackGlass x = told(plainFlow(3, 0, 0), plainFlow(8, 0, 0));
    due(1, x.counts(0, 3, 0, 1));
    due(1, x.counts(9, 8, 999, 999));
    due(1, x.counts(0, 3, 1, 2));
    due(400, x.miss(3, 2, 1));
    due(1, x.counts(0, 3, 9, 10));
    due(0, x.miss(3, 2, 1));
    due(0, x.miss(8, 2, 1));
    due(OUTSIDE, x.counts(0, 3, 0, 0));
    due(OUTSIDE, x.counts(0, 3, 0, 1000));
    due(OUTSIDE, x.counts(0, 3, -1, 5));
    due(OUTSIDE, x.counts(0, 3, 6, 5));
    due(1, x.counts(0, 8, 5, 5));
    due(UNKNOWN, x.counts(0, 4, 6, 5));
    due(UNKNOWN, x.counts(10, 3, 6, 5));
    for (int w : WILD) {
      due(UNKNOWN, x.counts(w, 3, 1, 1));
      due(UNKNOWN, x.counts(0, w, 1, 1));
      due(OUTSIDE, x.counts(0, 3, w, 9));
      due(OUTSIDE, x.counts(0, 3, 0, w));
    }
    due(0, x.miss(3, 2, 1));
    due(100, x.miss(8, 2, 1));
  }

  private static void misses() {
    begin(28);
    BlackGlass x = told(plainFlow(0, 0, 9999), "land 0 1 20;boat 0 1 9;boat 1 2 10;place 1 5 5 1;place 2 6 6 1;boat 0 3 10");
    for (int law = 0; law < 3; law++) due(0, x.miss(0, law, 1));
    // 9 miles; a share of 333.
    x.counts(1, 0, 1, 3);
    due(667, x.miss(0, 0, 1));
    due(667, x.miss(0, 1, 1));
    due(578, x.miss(0, 1, 99));
    due(567, x.miss(0, 2, 1));
    // 19 miles; a share of 1000.
    x.counts(2, 0, 7, 7);
    due(667 + 500, x.miss(0, 0, 1));
    due(667, x.miss(0, 0, 2));
    due(567 + 900, x.miss(0, 2, 1));
    due(567 + 100, x.miss(0, 2, 2));
    due(578 + 188, x.miss(0, 1, 99));
    // One that can't be come to doesn't count.
    x.counts(5, 0, 1, 1);
    due(667, x.miss(0, 0, 2));
    // Just 10 miles; a share of 0.
    x.counts(3, 0, 0, 9);
    due(667 + 500 + 500, x.miss(0, 0, 1));
    due(567 + 900 + 900, x.miss(0, 2, 1));
    due(667 + 1 + 999, x.miss(0, 1, 1));
    // The FLOW's own PLACE: 0 miles.
    x.counts(0, 0, 1, 4);
    due(667 + 1000 + 750, x.miss(0, 0, 2));
    due(UNKNOWN, x.miss(1, 3, 0));
    due(OUTSIDE, x.miss(0, 3, 1));
    due(OUTSIDE, x.miss(0, 0, 0));
    due(OUTSIDE, x.miss(0, 0, 100));
    for (int w : WILD) {
      due(UNKNOWN, x.miss(w, 0, 1));
      due(OUTSIDE, x.miss(0, w, 1));
      due(OUTSIDE, x.miss(0, 0, w));
    }
    BlackGlass far = told(plainFlow(0, 0, 0), "boat 0 1 999;boat 1 2 999");
    far.counts(2, 0, 0, 1);
    due(0, far.miss(0, 0, 1));
    due(0, far.miss(0, 1, 99));
    due(250, far.miss(0, 0, 99));
    due(100, far.miss(0, 2, 99));
    due(1, far.miss(0, 0, 22));
    due(0, far.miss(0, 0, 19));
  }

  private static void laws() {
    begin(29);
    BlackGlass x = told(plainFlow(0, 0, 0), "boat 0 1 100;boat 0 2 200;boat 0 3 300");
    due(1, x.law(0, 0));
    due(0, x.law(0, 1));
    // Halved at 100, 200, 300 miles: from 80 on to 100 of them, of these the least.
    x.counts(1, 0, 50, 100);
    x.counts(2, 0, 25, 100);
    x.counts(3, 0, 125, 999);
    due(8, x.law(0, 0));
    due(0, x.law(0, 1));
    x.counts(3, 0, 120, 999);
    due(8, x.law(0, 0));
    due(5, x.law(0, 1));
    // 2 less a mile by 10: CARRIERS.
    x.counts(1, 0, 98, 100);
    x.counts(2, 0, 96, 100);
    x.counts(3, 0, 94, 100);
    due(102, x.law(0, 0));
    due(0, x.law(0, 1));
    // 900 up to 200 miles: MARKET, of 20 to 29 the least.
    x.counts(1, 0, 9, 10);
    x.counts(2, 0, 9, 10);
    x.counts(3, 0, 1, 10);
    due(220, x.law(0, 0));
    due(0, x.law(0, 1));
    // Of LAWS that miss the same the least: 0 miles, a share of 1000.
    BlackGlass y = told(plainFlow(4, 7, 0));
    y.counts(7, 4, 1, 1);
    due(1, y.law(4, 0));
    due(0, y.law(4, 1));
    y.counts(7, 4, 95, 100);
    due(1, y.law(4, 0));
    due(50, y.law(4, 1));
    y.counts(7, 4, 94, 100);
    due(201, y.law(4, 0));
    due(40, y.law(4, 1));
    due(OUTSIDE, y.law(4, 2));
    due(UNKNOWN, y.law(3, 2));
    for (int w : WILD) {
      due(UNKNOWN, y.law(w, 0));
      due(OUTSIDE, y.law(4, w));
    }
  }

  private static void dates() {
    begin(30);
    BlackGlass x = new BlackGlass();
    due(UNKNOWN, x.dated(0, 5));
    plain(x, 3, 1, 0);
    x.rim(0, 100, 0);
    due(NONE, x.learnt(3, 0));
    due(1, x.dated(0, 0));
    due(1, x.dated(0, 9999));
    due(OUTSIDE, x.dated(0, 10000));
    due(OUTSIDE, x.dated(0, -2));
    due(UNKNOWN, x.dated(1, -2));
    // 9999 less 100: (99 and 101 times themselves) by 98 and 102.
    due(1, x.dated(0, 9899));
    due(98, x.learnt(3, 0));
    for (int w : WILD) due(UNKNOWN, x.dated(w, 0));
    due(OUTSIDE, x.dated(0, Integer.MAX_VALUE));
    due(OUTSIDE, x.dated(0, Integer.MIN_VALUE));
    due(98, x.learnt(3, 0));
    // It bounds no SPANS: by the RIM and WARMTH 100 9897 to 9901.
    due(9897, x.span(0, 0));
    due(9901, x.span(0, 1));
    due(1, x.dated(0, NONE));
    due(NONE, x.learnt(3, 0));
  }

  private static void learning() {
    begin(31);
    BlackGlass x = new BlackGlass();
    due(NONE, x.learnt(0, 0));
    plain(x, 0, 1, 0);
    plain(x, 0, 1, 0);
    plain(x, 1, 1, 0);
    x.dated(0, 9899);
    due(NONE, x.learnt(0, 0));
    // 99 * 99 = 9801 by 98 is 100 (by 97: 101); 101 * 101 = 10201 by 102 is 100 (by 103: 99).
    x.rim(0, 100, 0);
    due(98, x.learnt(0, 0));
    due(102, x.learnt(0, 1));
    due(NONE, x.learnt(1, 0));
    // A SECOND RIM tells nothing of STRUCK.
    x.rim(0, 100, 7);
    due(98, x.learnt(0, 0));
    due(102, x.learnt(0, 1));
    // 49 * 49 = 2401 by 25 is 96; 51 * 51 = 2601: 25 years ago by 93 (25) to 104 (25).
    x.rim(1, 50, 0);
    due(98, x.learnt(0, 0));
    x.dated(1, 9974);
    due(98, x.learnt(0, 0));
    due(102, x.learnt(0, 1));
    x.dated(1, 9973);
    due(98, x.learnt(0, 0));
    due(100, x.learnt(0, 1));
    x.dated(1, 9972);
    due(NONE, x.learnt(0, 0));
    due(NONE, x.learnt(0, 1));
    x.dated(2, 5000);
    x.rim(2, 500, 0);
    // 499 * 499 = 249001 and 501 * 501 = 251001, 4999 years ago.
    due(50, x.learnt(1, 0));
    due(50, x.learnt(1, 1));
    tell(x, "place 1 0 9999 7");
    due(50, x.learnt(1, 0));
    due(UNKNOWN, x.learnt(10, 2));
    due(OUTSIDE, x.learnt(0, 2));
    for (int w : WILD) {
      due(UNKNOWN, x.learnt(w, 0));
      due(OUTSIDE, x.learnt(0, w));
    }
    learningAtTheEnds();
  }

  private static void learningAtTheEnds() {
    BlackGlass x = new BlackGlass();
    plain(x, 9, 1, 0);
    // YEAR 0 is in each span that goes back 9999 years or more: 201 * 201 = 40401 by 4.
    x.rim(0, 200, 0);
    x.dated(0, 0);
    due(1, x.learnt(9, 0));
    due(4, x.learnt(9, 1));
    // YEAR 1: not more than 9998 years ago: 39601 by 4 is 9900, by 3 it is 13200.
    x.dated(0, 1);
    due(4, x.learnt(9, 0));
    due(4, x.learnt(9, 1));
    // Now: less than a year ago, by more than 24 * 24.
    x.rim(0, 25, 0);
    x.dated(0, 9999);
    due(577, x.learnt(9, 0));
    due(999, x.learnt(9, 1));
    x.rim(0, 32, 0);
    due(962, x.learnt(9, 0));
    x.rim(0, 33, 0);
    due(NONE, x.learnt(9, 0));
    x.rim(0, 1, 0);
    due(1, x.learnt(9, 0));
    due(999, x.learnt(9, 1));
    x.dated(0, 0);
    due(NONE, x.learnt(9, 1));
    x.rim(0, 99, 0);
    due(1, x.learnt(9, 0));
    due(1, x.learnt(9, 1));
    x.rim(0, 98, 0);
    due(NONE, x.learnt(9, 0));
  }

  private static void counting() {
    begin(32);
    BlackGlass x = told("near 0;far 999;flow 0 0 0 0 0 0 0;flow 0 0 0 0 0 0 0;flow 8 0 0 0 0 0 0");
    write(x, "place");
    plain(x, 0, 1, 0);
    plain(x, 0, 1, 0);
    plain(x, 0, 1, 0);
    x.strike(0, 1);
    x.strike(2, 1);
    int[] want = {2, 5, 3, 0, 999, 2};
    for (int w = 0; w < 6; w++) due(want[w], x.count(w));
    due(OUTSIDE, x.count(6));
    for (int w : WILD) due(OUTSIDE, x.count(w));
    x.undo(0);
    due(1, x.count(5));
  }

  /** Where PLACE, FLOW or BLADE 0 is the one that counts. */
  private static void numbersZero() {
    begin(15);
    BlackGlass n = told("flow 0 0 0 100 100 100 0;flow 3 0 0 105 100 100 0;far 31");
    n.blade(0, numbers(103, 100, 100), 1, 1, 0);
    due(NONE, n.named(0));
    tell(n, "far 30");
    due(3, n.named(0));
    begin(22);
    BlackGlass x = told(plainFlow(1, 1, 0), "land 0 1 5;land 0 2 6;place 0 10 20 1");
    plain(x, 0, 1, 0);
    plain(x, 2, 1, 0);
    due(1, x.legs(0, 1, 10, false, 0));
    due(5, x.legs(0, 1, 20, false, 1));
    due(NONE, x.legs(0, 1, 9, false, 0));
    due(NONE, x.legs(0, 1, 21, false, 1));
    due(2, x.legs(1, 1, 15, false, 0));
    due(11, x.legs(1, 1, 15, false, 1));
    tell(x, "land 0 1 0");
    due(NONE, x.legs(0, 1, 15, false, 1));
    due(NONE, x.legs(0, 1, 15, false, 0));
    due(NONE, x.legs(1, 1, 15, false, 0));
    begin(18);
    BlackGlass y = told("place 0 2000 5000 10");
    plain(y, 0, 1, 1);
    plain(y, 0, 1, 2);
    // 4663 to 4755, as above.
    y.rim(1, 230, 0);
    spans(y, 0, 0, 5000, NONE, NONE, 4663, 5000);
    y.strike(0, 1);
    spans(y, 0, 4663, 5000, NONE, NONE, 4663, 5000);
    // Without a RIM one may be of now, however cold the ground is.
    BlackGlass z = told("place 0 0 9999 1");
    plain(z, 0, 1, 1);
    due(9999, z.span(0, 1));
    z.rim(0, 3, 1);
    spans(z, 0, 9983, 9995, 9995, 9999, 9995, 9999);
    begin(25);
    BlackGlass s = told(plainFlow(0, 1, 0), "boat 1 0 1;place 0 5 50 10");
    plain(s, 0, 1, 0);
    due(50, s.sea());
    begin(29);
    BlackGlass l = told(plainFlow(0, 0, 0), "boat 0 1 990");
    l.counts(1, 0, 9, 10);
    due(299, l.law(0, 0));
    due(0, l.law(0, 1));
    begin(31);
    z.rim(0, 0, 0);
    plain(z, 0, 1, 1);
    z.dated(0, 0);
    z.dated(1, 9899);
    z.rim(1, 100, 0);
    due(98, z.learnt(0, 0));
    due(102, z.learnt(0, 1));
  }

  /** All BLADES, FLOWS and PLACES at once, in one row of STRIKES. */
  private static void fullObject() {
    begin(21);
    BlackGlass x = new BlackGlass();
    for (int f = 0; f < 9; f++) tell(x, plainFlow(f, f, 1000 + f));
    for (int p = 0; p < 9; p++) tell(x, "boat " + p + " " + (p + 1) + " 10");
    for (int b = 0; b < 12; b++) plain(x, Math.min(b, 9), 100 - b, b);
    for (int b = 1; b < 12; b++) due(1, x.strike(b, b - 1));
    due(NOT, x.strike(0, 11));
    due(11, x.count(5));
    due(9, x.count(0));
    // All may have come from each one ahead of them.
    for (int b = 0; b < 12; b++) due((1 << b) - 1, x.from(b));
    due(12, x.chain(-1));
    due(11, x.chain(-2));
    for (int i = 0; i < 12; i++) due(i, x.chain(i));
    due(NONE, x.chain(12));
    // One STRUCK late in the first row makes all of them late, and the last one early all early.
    due(1000, x.span(11, 0));
    tell(x, "place 0 5000 5100 100");
    x.rim(0, 700, 0);
    due(5085, x.span(11, 0));
    due(5085, x.span(11, 4));
    due(5100, x.span(0, 1));
    tell(x, "place 9 0 5090 100");
    due(5090, x.span(0, 1));
    due(5085, x.span(0, 0));
    due(NONE, x.span(0, 2));
    due(1, x.heirloom(11));
    begin(24);
    due(0b111000000000, x.boats());
    due(5090, x.sea());
    due(0, x.next());
    begin(23);
    due(5085, x.reach(11, 8, true, 0));
    due(1, x.reach(11, 8, true, 1));
    due(9, x.reach(11, 0, true, 1));
    begin(31);
    for (int b = 0; b < 12; b++) due(1, x.dated(b, 5090));
    due(100, x.learnt(0, 0));
    due(100, x.learnt(0, 1));
    due(UNKNOWN, x.of(12, 0));
    for (int f = 0; f < 9; f++) for (int p = 0; p < 10; p++) due(1, x.counts(p, f, 9, 10));
    due(0, x.miss(0, 2, 9));
    due(0, x.miss(8, 2, 8));
    due(208, x.law(8, 0));
  }
}
