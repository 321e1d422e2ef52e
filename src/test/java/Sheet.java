import java.io.IOException;
import java.nio.file.Files;
import java.nio.file.Path;
import java.util.function.IntUnaryOperator;

/** What the written tests share: answers held against those that are due, and texts that are told. */
abstract class Sheet {
  static final int NONE = -1, UNKNOWN = -2, OUTSIDE = -3, NOT = -4, FULL = -5;
  static final int[] WILD = {Integer.MIN_VALUE, -1000, -1, 1000000, Integer.MAX_VALUE};
  private static final Path DOCUMENT = Path.of("../shared/DOC.md");
  private static String document = null;
  private static String sentence = "";
  private static int answersToIt = 1;
  private static int sentences = 0;
  private static int wrong = 0;

  /** What follows tests this sentence, which must stand in the document word by word. */
  static void says(String words) {
    about(words);
    if (!document().isEmpty() && !document().contains(words)) fail("the document doesn't say this");
  }

  static void about(String what) {
    if (answersToIt == 0) fail("nothing was held against it");
    sentence = what;
    answersToIt = 0;
    sentences++;
  }

  private static String document() {
    if (document != null) return document;
    try {
      document = Files.exists(DOCUMENT) ? Files.readString(DOCUMENT) : "";
    } catch (IOException e) {
      document = "";
    }
    return document;
  }

  static void fail(String how) {
    wrong++;
    StringBuilder lines = new StringBuilder();
    for (StackTraceElement at : Thread.currentThread().getStackTrace()) {
      boolean test = at.getClassName().endsWith("Test") && !at.getMethodName().equals("main");
      if (test) lines.append(lines.length() == 0 ? " line " : " of ").append(at.getLineNumber());
    }
    System.out.println("\"" + sentence + "\"" + lines + ": " + how);
  }

  static void due(long want, long got) {
    answersToIt++;
    if (got != want) fail("answered " + got + ", due is " + want);
  }

  /** A number just below its bounds, at both of them and just above; 'good' is due inside, 'bad' beyond. */
  static void bounds(int least, int greatest, int bad, int good, IntUnaryOperator call) {
    due(bad, call.applyAsInt(least - 1));
    due(good, call.applyAsInt(least));
    due(good, call.applyAsInt(greatest));
    due(bad, call.applyAsInt(greatest + 1));
    due(bad, call.applyAsInt(Integer.MIN_VALUE));
    due(bad, call.applyAsInt(Integer.MAX_VALUE));
  }

  static void finish() {
    if (answersToIt == 0) fail("nothing was held against it");
    System.out.println(wrong == 0 ? sentences + " sentences hold" : wrong + " answers are not as due");
    if (wrong != 0) System.exit(1);
  }

  static void write(BlackGlass x, String text) {
    for (int at = 0; at < text.length(); at += 8) {
      int n = Math.min(8, text.length() - at);
      long bytes = 0;
      for (int i = 0; i < n; i++) bytes |= (long) (text.charAt(at + i) & 255) << 8 * i;
      x.write(bytes, n);
    }
  }

  static void tell(BlackGlass x, String text) {
    x.erase();
    write(x, text);
    if (x.land() < 1) fail("the text has a fault: " + text);
  }

  static BlackGlass told(String... texts) {
    BlackGlass x = new BlackGlass();
    for (String text : texts) tell(x, text);
    return x;
  }

  /** The FAULT of a text on a new object, which stays as it is by being asked for. */
  static void fault(int want, String text) {
    BlackGlass x = new BlackGlass();
    write(x, text);
    answersToIt++;
    int got = x.fault();
    if (got != want) fail("the fault of '" + text + "' is " + got + ", due is " + want);
    if (x.count(1) != text.length() || x.fault() != got) fail("asking for the fault changed '" + text + "'");
    if (want != NONE && x.land() != NOT) fail("land did '" + text + "'");
  }

  static int numbers(int a, int b, int c) { return a | b << 10 | c << 20; }

  /** A FLOW of STUFFS 100 each and SPREAD 0. */
  static String plainFlow(int flow, int place, int open) {
    return "flow " + flow + " " + place + " " + open + " 100 100 100 0";
  }

  /** A BLADE that CAN BE of plain FLOWS. */
  static int plain(BlackGlass x, int place, int size, int layer) {
    return x.blade(place, numbers(100, 100, 100), 1, size, layer);
  }

  static void spans(BlackGlass x, int blade, int... want) {
    for (int w = 0; w < 6; w++) due(want[w], x.span(blade, w));
  }
}
