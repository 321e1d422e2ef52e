import java.util.List;

/** Each call that is refused, in several states: which refusal is the first that fits, and that nothing changes behind it. */
public final class RefusedTest extends Sheet {
  private static final int LEAST = Integer.MIN_VALUE, MOST = Integer.MAX_VALUE;
  private static final Calls.State[] ALL = Calls.State.values();
  private static final Calls.State EMPTY = Calls.State.EMPTY, TOLD = Calls.State.TOLD, FULL_UP = Calls.State.FULL;
  private static final Calls.State NO_WAY = Calls.State.NO_WAY, ENDS = Calls.State.ENDS;
  private static final Calls.State[] WITH_BLADES = {TOLD, FULL_UP, NO_WAY, ENDS};
  private static final int[] NO_PLACE = {LEAST, -2, -1, 10, 11, MOST};
  private static final int[] NO_FLOW = {LEAST, -2, -1, 9, 10, MOST};
  private static final int[] NO_BLADE = {LEAST, -2, -1, 12, 13, MOST};
  /** Three NUMBERS of which one is 1000, at each place. */
  private static final int[] NO_NUMBERS = {1000, 1000 << 10, 1000 << 20, -1, MOST};

  public static void main(String[] args) {
    says("Refused, and nothing changes: UNKNOWN (no such PLACE, FLOW, BLADE), OUTSIDE (another number is not as told), NOT (not now: as told), FULL: the first of these that fits.");
    nothingChangesByAsking();
    statesAreSo();
    texts();
    landAsked();
    bladesTold();
    bladesAsked();
    strikes();
    years();
    ways();
    counts();
    warmth();
    finish();
  }

  /** Without a refused call the probes answer the same twice: they themselves don't tell anything. */
  private static void nothingChangesByAsking() {
    for (Calls.State state : ALL) {
      BlackGlass x = in(state);
      List<Calls.Step> found = Calls.probe(1);
      int[] first = answers(x, found);
      due(0, differing(first, answers(x, found)));
    }
  }

  private static BlackGlass in(Calls.State state) {
    BlackGlass x = new BlackGlass();
    Calls.makeAll(x, Calls.stateOf(state));
    return x;
  }

  /** The states are what their names tell, and no object is used for more calls than the document allows. */
  private static void statesAreSo() {
    about("the states");
    for (Calls.State state : ALL) {
      for (int part = 0; part < Calls.PROBES; part++) {
        due(1, Calls.stateOf(state).size() + 2 + Calls.probe(part).size() <= 512 ? 1 : 0);
      }
    }
    BlackGlass told = in(TOLD), full = in(FULL_UP), none = in(NO_WAY), ends = in(ENDS);
    int[] many = {3, 9, 4, 25, 35, 2}, most = {9, 200, 12, 20, 30, 11}, end = {2, 6, 2, 0, 999, 0};
    for (int w = 0; w < 6; w++) {
      due(many[w], told.count(w));
      due(most[w], full.count(w));
      due(many[w], none.count(w));
      due(end[w], ends.count(w));
    }
    due(9595, told.span(0, 0));
    due(100, told.learnt(0, 0));
    due(NONE, none.span(0, 0));
    due(12, full.chain(-1));
    due(NONE, full.fault());
    due(9999, ends.span(0, 0));
    due(0, ends.span(1, 1));
  }

  private static int[] answers(Object x, List<Calls.Step> steps) {
    int[] all = new int[steps.size()];
    for (int i = 0; i < all.length; i++) all[i] = Calls.make(x, steps.get(i));
    return all;
  }

  private static int differing(int[] a, int[] b) {
    int many = 0;
    for (int i = 0; i < a.length; i++) many += a[i] != b[i] ? 1 : 0;
    return many;
  }

  private static void refused(Calls.State state, int want, String name, Object... args) {
    Calls.Step call = new Calls.Step(name, args);
    about(call.words() + " in " + state);
    for (int part = 0; part < Calls.PROBES; part++) {
      BlackGlass x = in(state), untouched = in(state);
      due(want, Calls.make(x, call));
      due(want, Calls.make(x, call));
      List<Calls.Step> probe = Calls.probe(part);
      int[] now = answers(x, probe), before = answers(untouched, probe);
      for (int i = 0; i < now.length; i++) {
        if (now[i] != before[i]) fail("behind it " + probe.get(i).words() + " answers " + now[i] + ", not " + before[i]);
      }
    }
  }

  private static void refused(Calls.State[] states, int want, String name, Object... args) {
    for (Calls.State state : states) refused(state, want, name, args);
  }

  private static void texts() {
    for (int n : new int[] {LEAST, -8, -1, 0, 9, 10, MOST}) refused(ALL, OUTSIDE, "write", 0x3737373737373737L, n);
    for (int n = 1; n <= 8; n++) refused(FULL_UP, FULL, "write", 0x3737373737373737L, n);
    for (Calls.State state : new Calls.State[] {EMPTY, TOLD, NO_WAY}) refused(state, NOT, "land");
  }

  private static void landAsked() {
    for (int p : NO_PLACE) {
      refused(ALL, UNKNOWN, "place", p, 0);
      refused(TOLD, UNKNOWN, "place", p, 3);
      refused(ALL, UNKNOWN, "way", p, 0, 0);
      refused(ALL, UNKNOWN, "way", 0, p, 1);
      refused(TOLD, UNKNOWN, "way", p, p, 2);
    }
    for (int p = 0; p < 10; p++) refused(TOLD, UNKNOWN, "way", p, p, p % 3);
    for (int w : new int[] {LEAST, -1, 3, MOST}) refused(ALL, OUTSIDE, "place", 9, w);
    for (int w : new int[] {LEAST, -1, 2, MOST}) refused(ALL, OUTSIDE, "way", 0, 9, w);
    for (int f : NO_FLOW) {
      refused(ALL, UNKNOWN, "flow", f, 0);
      refused(TOLD, UNKNOWN, "flow", f, 6);
    }
    refused(EMPTY, UNKNOWN, "flow", 0, 0);
    refused(TOLD, UNKNOWN, "flow", 2, 0);
    refused(TOLD, UNKNOWN, "flow", 7, 6);
    for (int w : new int[] {LEAST, -1, 6, MOST}) refused(WITH_BLADES, OUTSIDE, "flow", 8, w);
    for (int w : new int[] {LEAST, -1, 6, MOST}) refused(ALL, OUTSIDE, "count", w);
  }

  private static void bladesTold() {
    for (int p : NO_PLACE) {
      refused(ALL, UNKNOWN, "blade", p, 5, 5, 5, 5);
      refused(ALL, UNKNOWN, "blade", p, -1, 0, 0, -1);
    }
    for (int n : NO_NUMBERS) refused(ALL, OUTSIDE, "blade", 5, n, 5, 5, 5);
    for (int e : new int[] {LEAST, -1, 0, 100, MOST}) refused(ALL, OUTSIDE, "blade", 5, 5, e, 5, 5);
    for (int s : new int[] {LEAST, -1, 0, 1000, MOST}) refused(ALL, OUTSIDE, "blade", 5, 5, 5, s, 5);
    for (int l : new int[] {LEAST, -1, 100, MOST}) refused(ALL, OUTSIDE, "blade", 5, 5, 5, 5, l);
    refused(FULL_UP, FULL, "blade", 5, 5, 5, 5, 5);
    refused(FULL_UP, FULL, "blade", 0, 0, 1, 1, 0);
    for (int b : NO_BLADE) {
      refused(ALL, UNKNOWN, "rim", b, 5, 4);
      refused(ALL, UNKNOWN, "rim", b, 1000, 1000);
      refused(ALL, UNKNOWN, "measure", b, 5, 5);
      refused(ALL, UNKNOWN, "measure", b, -1, 0);
    }
    refused(EMPTY, UNKNOWN, "rim", 0, 5, 4);
    refused(EMPTY, UNKNOWN, "measure", 0, 5, 5);
    refused(TOLD, UNKNOWN, "rim", 4, 5, 4);
    refused(TOLD, UNKNOWN, "measure", 4, 5, 5);
    int[][] rims = {{-1, 0}, {1000, 0}, {1000, 5}, {LEAST, 0}, {MOST, 0}, {LEAST, MOST}, {MOST, LEAST}, {0, 1}, {0, -1}, {1, 1}, {5, 5}, {5, 6}, {5, -1}, {999, 999}, {999, 1000}, {5, LEAST}, {5, MOST}};
    for (int[] r : rims) refused(WITH_BLADES, OUTSIDE, "rim", 0, r[0], r[1]);
    for (int n : NO_NUMBERS) refused(WITH_BLADES, OUTSIDE, "measure", 0, n, 5);
    for (int e : new int[] {LEAST, -1, 0, 100, MOST}) refused(WITH_BLADES, OUTSIDE, "measure", 1, 5, e);
  }

  private static void bladesAsked() {
    for (int b : NO_BLADE) {
      for (String name : new String[] {"can", "named", "undo", "heirloom", "from"}) refused(ALL, UNKNOWN, name, b);
      refused(ALL, UNKNOWN, "of", b, 0);
      refused(TOLD, UNKNOWN, "of", b, 10);
      refused(ALL, UNKNOWN, "off", b, 0);
    }
    for (String name : new String[] {"can", "named", "undo", "heirloom", "from"}) {
      refused(EMPTY, UNKNOWN, name, 0);
      refused(TOLD, UNKNOWN, name, 4);
      refused(NO_WAY, UNKNOWN, name, 4);
    }
    for (int w : new int[] {LEAST, -1, 10, MOST}) refused(WITH_BLADES, OUTSIDE, "of", 1, w);
    for (int f : NO_FLOW) refused(WITH_BLADES, UNKNOWN, "off", 0, f);
    refused(TOLD, UNKNOWN, "off", 0, 2);
    refused(EMPTY, UNKNOWN, "off", 0, 0);
  }

  private static void strikes() {
    for (int b : NO_BLADE) {
      refused(ALL, UNKNOWN, "strike", b, 0);
      refused(ALL, UNKNOWN, "strike", 0, b);
      refused(TOLD, UNKNOWN, "strike", b, b);
    }
    for (int b = 0; b < 4; b++) refused(TOLD, UNKNOWN, "strike", b, b);
    refused(EMPTY, UNKNOWN, "strike", 0, 0);
    refused(EMPTY, UNKNOWN, "strike", 0, 1);
    refused(TOLD, UNKNOWN, "strike", 1, 4);
    // Struck from one already: the same, another one; or that one from it, by others, too.
    refused(TOLD, NOT, "strike", 1, 0);
    refused(TOLD, NOT, "strike", 1, 3);
    refused(TOLD, NOT, "strike", 0, 1);
    refused(TOLD, NOT, "strike", 0, 2);
    refused(NO_WAY, NOT, "strike", 1, 2);
    for (int b = 1; b < 12; b++) {
      refused(FULL_UP, NOT, "strike", 0, b);
      refused(FULL_UP, NOT, "strike", b, 0);
    }
  }

  private static void years() {
    for (int b : NO_BLADE) {
      refused(ALL, UNKNOWN, "span", b, 0);
      refused(TOLD, UNKNOWN, "span", b, 6);
    }
    refused(EMPTY, UNKNOWN, "span", 0, 0);
    refused(NO_WAY, UNKNOWN, "span", 4, 0);
    for (int w : new int[] {LEAST, -1, 6, MOST}) refused(WITH_BLADES, OUTSIDE, "span", 1, w);
    for (int w : new int[] {LEAST, -4, -3}) refused(ALL, OUTSIDE, "chain", w);
  }

  private static void ways() {
    for (int b : NO_BLADE) {
      refused(ALL, UNKNOWN, "legs", b, 0, 5, true, 0);
      refused(TOLD, UNKNOWN, "legs", b, 0, -1, true, 2);
      refused(ALL, UNKNOWN, "reach", b, 0, true, 0);
      refused(TOLD, UNKNOWN, "reach", b, 0, true, 2);
    }
    for (int f : NO_FLOW) {
      refused(ALL, UNKNOWN, "legs", 0, f, 5, true, 0);
      refused(TOLD, UNKNOWN, "legs", 0, f, 10000, true, -1);
      refused(ALL, UNKNOWN, "reach", 0, f, true, 0);
      refused(TOLD, UNKNOWN, "reach", 0, f, false, -1);
    }
    refused(EMPTY, UNKNOWN, "legs", 0, 0, 5, true, 0);
    refused(TOLD, UNKNOWN, "legs", 0, 2, 5, true, 0);
    refused(NO_WAY, UNKNOWN, "reach", 0, 2, true, 0);
    for (int y : new int[] {LEAST, -1, 10000, MOST}) refused(WITH_BLADES, OUTSIDE, "legs", 0, 0, y, true, 0);
    for (int w : new int[] {LEAST, -1, 2, MOST}) {
      refused(WITH_BLADES, OUTSIDE, "legs", 0, 0, 5, false, w);
      refused(WITH_BLADES, OUTSIDE, "reach", 0, 0, false, w);
    }
  }

  private static void counts() {
    for (int p : NO_PLACE) {
      refused(ALL, UNKNOWN, "counts", p, 0, 5, 9);
      refused(TOLD, UNKNOWN, "counts", p, 0, 10, 9);
    }
    for (int f : NO_FLOW) {
      refused(ALL, UNKNOWN, "counts", 0, f, 5, 9);
      refused(TOLD, UNKNOWN, "counts", 0, f, 0, 0);
      refused(ALL, UNKNOWN, "miss", f, 0, 1);
      refused(TOLD, UNKNOWN, "miss", f, 3, 0);
      refused(ALL, UNKNOWN, "law", f, 0);
      refused(TOLD, UNKNOWN, "law", f, 2);
    }
    refused(EMPTY, UNKNOWN, "counts", 0, 0, 5, 9);
    refused(TOLD, UNKNOWN, "counts", 0, 2, 5, 9);
    refused(TOLD, UNKNOWN, "miss", 2, 0, 1);
    refused(TOLD, UNKNOWN, "law", 2, 0);
    int[][] none = {{0, 0}, {0, -1}, {0, 1000}, {1000, 1000}, {10, 9}, {-1, 9}, {LEAST, 9}, {MOST, 9}, {0, LEAST}, {0, MOST}, {999, 998}, {2, 1}, {-1, -1}};
    for (int[] c : none) refused(WITH_BLADES, OUTSIDE, "counts", 0, 0, c[0], c[1]);
    for (int law : new int[] {LEAST, -1, 3, MOST}) refused(WITH_BLADES, OUTSIDE, "miss", 0, law, 1);
    for (int p : new int[] {LEAST, -1, 0, 100, MOST}) for (int law = 0; law < 3; law++) refused(WITH_BLADES, OUTSIDE, "miss", 0, law, p);
    for (int w : new int[] {LEAST, -1, 2, MOST}) refused(WITH_BLADES, OUTSIDE, "law", 0, w);
  }

  private static void warmth() {
    for (int b : NO_BLADE) {
      refused(ALL, UNKNOWN, "dated", b, 5);
      refused(TOLD, UNKNOWN, "dated", b, 10000);
    }
    refused(EMPTY, UNKNOWN, "dated", 0, 5);
    refused(TOLD, UNKNOWN, "dated", 4, 5);
    for (int y : new int[] {LEAST, -3, -2, 10000, 10001, MOST}) refused(WITH_BLADES, OUTSIDE, "dated", 0, y);
    for (int p : NO_PLACE) {
      refused(ALL, UNKNOWN, "learnt", p, 0);
      refused(TOLD, UNKNOWN, "learnt", p, 2);
    }
    for (int w : new int[] {LEAST, -1, 2, MOST}) refused(ALL, OUTSIDE, "learnt", 0, w);
  }
}
