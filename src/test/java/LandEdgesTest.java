import java.util.List;

/** The sentences on THE TEXT and the land that name a bound, each by itself; promises 1 to 8. */
public final class LandEdgesTest extends Sheet {
  private static final String SEVEN = "far1;far2;far3;far4;far5;far6;far7";

  public static void main(String[] args) {
    firstState();
    yearsAndPlaces();
    flowNumbers();
    wayNumbers();
    nearAndFar();
    lengthOfText();
    manyLines();
    words();
    digits();
    signs();
    blanks();
    firstFault();
    tooSoon();
    orders();
    writing();
    erasing();
    faulting();
    landing();
    asking();
    manyCalls();
    finish();
  }

  private static void firstState() {
    says("`BlackGlass()`: No FLOWS, no BLADES.");
    BlackGlass x = new BlackGlass();
    due(0, x.count(0));
    due(0, x.count(1));
    due(0, x.count(2));
    due(0, x.count(5));
    for (int f = -1; f <= 9; f++) due(UNKNOWN, x.flow(f, 0));
    for (int b = -1; b <= 12; b++) due(UNKNOWN, x.of(b, 0));
    says("each LIVE from a YEAR to one (0 .. 9999 at first)");
    for (int p = 0; p < 10; p++) {
      due(0, x.place(p, 0));
      due(9999, x.place(p, 1));
    }
    says("WARMTH (1 .. 999; 100 at first)");
    for (int p = 0; p < 10; p++) due(100, x.place(p, 2));
    says("FLOWS are 0 .. 8 (none told at first)");
    for (int f = 0; f < 9; f++) for (int w = 0; w < 6; w++) due(UNKNOWN, x.flow(f, w));
    says("each of so many miles (1 .. 999), or none (as at first)");
    BlackGlass y = new BlackGlass();
    for (int p = 0; p < 10; p++) {
      for (int q = 0; q < 10; q++) {
        if (p != q) due(0, y.way(p, q, 0) + y.way(p, q, 1));
      }
    }
    says("NEAR and FAR are bounds (0 .. 999; 20 and 30 at first)");
    due(20, new BlackGlass().count(3));
    due(30, new BlackGlass().count(4));
  }

  private static void yearsAndPlaces() {
    says("9999 (later ones are greater; 9999 is now)");
    fault(NONE, "place 0 0 0 1");
    fault(NONE, "place 0 0 9999 1");
    fault(NONE, "place 0 9999 9999 1");
    fault(8, "place 0 10000 10000 1");
    fault(10, "place 0 0 10000 1");
    fault(NONE, "flow 0 0 0 0 0 0 0");
    fault(NONE, "flow 0 0 9999 0 0 0 0");
    fault(9, "flow 0 0 10000 0 0 0 0");
    BlackGlass x = told("place 0 9998 9999 1;place 1 0 1 1;flow 0 0 9999 0 0 0 0");
    due(9998, x.place(0, 0));
    due(9999, x.place(0, 1));
    due(0, x.place(1, 0));
    due(1, x.place(1, 1));
    due(9999, x.flow(0, 1));
    says("PLACES are 0 .. 9");
    for (int p = 0; p < 10; p++) fault(NONE, "place " + p + " 0 0 1");
    fault(6, "place 10 0 0 1");
    fault(6, "place 11 0 0 1");
    fault(6, "place 99 0 0 1");
    fault(6, "place 9999 0 0 1");
    for (int p = 0; p < 10; p++) fault(NONE, "flow 0 " + p + " 0 0 0 0 0");
    fault(7, "flow 0 10 0 0 0 0 0");
    for (String way : new String[] {"land", "boat"}) {
      for (int p = 1; p < 10; p++) {
        fault(NONE, way + " 0 " + p + " 1");
        fault(NONE, way + " " + p + " 0 1");
      }
      fault(5, way + " 10 0 1");
      fault(7, way + " 0 10 1");
    }
    says("W WARMTH");
    fault(12, "place 0 0 0 0");
    fault(NONE, "place 0 0 0 1");
    fault(NONE, "place 0 0 0 2");
    fault(NONE, "place 0 0 0 998");
    fault(NONE, "place 0 0 0 999");
    fault(12, "place 0 0 0 1000");
    fault(12, "place 0 0 0 0000");
    says("Z not below Y");
    fault(10, "place 0 1 0 1");
    fault(13, "place 0 5000 4999 1");
    fault(NONE, "place 0 5000 5000 1");
    fault(NONE, "place 0 5000 5001 1");
    fault(13, "place 0 9999 9998 1");
    // By their numbers, not by their digits.
    fault(NONE, "place 0 9 10 1");
    fault(13, "place 0 0010 9 1");
  }

  private static void flowNumbers() {
    says("F a FLOW, P its PLACE, Y OPEN, A, B, C STUFFS, S SPREAD");
    for (int f = 0; f < 9; f++) fault(NONE, "flow " + f + " 0 0 0 0 0 0");
    fault(5, "flow 9 0 0 0 0 0 0");
    fault(5, "flow 10 0 0 0 0 0 0");
    // OPEN bounds no other number, and none ahead bounds it.
    fault(NONE, "flow 8 9 0 999 0 999 0");
    fault(NONE, "flow 8 9 9999 0 999 0 99");
    says("with three STUFFS (0 .. 999 each)");
    fault(NONE, "flow 0 0 0 999 999 999 0");
    fault(11, "flow 0 0 0 1000 999 999 0");
    fault(15, "flow 0 0 0 999 1000 999 0");
    fault(19, "flow 0 0 0 999 999 1000 0");
    BlackGlass x = told("flow 0 0 0 0 999 1 0;flow 8 9 9999 998 0 999 99");
    due(0, x.flow(0, 2));
    due(999, x.flow(0, 3));
    due(1, x.flow(0, 4));
    due(998, x.flow(8, 2));
    due(0, x.flow(8, 3));
    due(999, x.flow(8, 4));
    says("SPREAD (0 .. 99)");
    fault(NONE, "flow 0 0 0 0 0 0 0");
    fault(NONE, "flow 0 0 0 0 0 0 99");
    fault(17, "flow 0 0 0 0 0 0 100");
    due(0, x.flow(0, 5));
    due(99, x.flow(8, 5));
  }

  private static void wayNumbers() {
    says("P, Q unlike PLACES");
    for (String way : new String[] {"land", "boat"}) {
      for (int p = 0; p < 10; p++) fault(7, way + " " + p + " " + p + " 1");
      fault(7, way + " 3 0003 1");
      fault(10, way + " 0003 3 1");
      fault(NONE, way + " 3 2 1");
      fault(NONE, way + " 3 4 1");
    }
    says("M miles, 0: none");
    for (String way : new String[] {"land", "boat"}) {
      fault(NONE, way + " 0 1 0");
      fault(NONE, way + " 0 1 1");
      fault(NONE, way + " 0 1 999");
      fault(9, way + " 0 1 1000");
    }
    BlackGlass x = told("land 0 1 1;boat 0 1 999;land 8 9 999;boat 8 9 1");
    due(1, x.way(0, 1, 0));
    due(999, x.way(1, 0, 1));
    tell(x, "land 1 0 0");
    due(0, x.way(0, 1, 0));
    due(0, x.way(1, 0, 0));
    due(999, x.way(0, 1, 1));
    tell(x, "boat 9 8 0000");
    due(0, x.way(8, 9, 1));
    due(999, x.way(8, 9, 0));
  }

  private static void nearAndFar() {
    says("near N. far N.");
    fault(NONE, "near 0");
    fault(NONE, "near 999");
    fault(5, "near 1000");
    fault(NONE, "far 0");
    fault(NONE, "far 999");
    fault(4, "far 1000");
    BlackGlass x = told("near 0;far 0");
    due(0, x.count(3));
    due(0, x.count(4));
    tell(x, "near 999");
    due(999, x.count(3));
    due(0, x.count(4));
    tell(x, "far 999");
    due(999, x.count(4));
    // Neither bounds the other one.
    tell(x, "near 999;far 1");
    due(999, x.count(3));
    due(1, x.count(4));
  }

  private static BlackGlass withBytes(int many) {
    BlackGlass x = new BlackGlass();
    for (int i = 0; i < many / 8; i++) x.write(0x2020202020202020L, 8);
    if (many % 8 > 0) x.write(0x2020202020202020L, many % 8);
    return x;
  }

  private static void lengthOfText() {
    says("THE TEXT is a row of bytes, 200 at most");
    for (int n = 1; n <= 8; n++) {
      due(199, withBytes(199 - n).write(32, n));
      due(200, withBytes(200 - n).write(32, n));
      due(FULL, withBytes(201 - n).write(32, n));
      due(FULL, withBytes(200).write(32, n));
      BlackGlass x = withBytes(201 - n);
      due(FULL, x.write(32, n));
      due(201 - n, x.count(1));
    }
    // A text that fills it to the last byte is done.
    BlackGlass x = withBytes(194);
    write(x, "near 7");
    due(200, x.count(1));
    due(NONE, x.fault());
    due(1, x.land());
    due(7, x.count(3));
    due(0, x.count(1));
    BlackGlass y = withBytes(194);
    write(y, "near 7");
    due(FULL, y.write('8', 1));
    due(1, y.land());
    due(7, y.count(3));
    // The last byte counts.
    BlackGlass z = withBytes(194);
    write(z, "near x");
    due(199, z.fault());
  }

  private static void manyLines() {
    says("LINES with ; (59) between, 1 to 8 (behind the 8th no ; can stand)");
    fault(0, "");
    fault(NONE, "far1");
    fault(5, "far1;");
    fault(NONE, "far1;far2");
    fault(NONE, SEVEN);
    fault(35, SEVEN + ";");
    fault(NONE, SEVEN + ";far8");
    fault(39, SEVEN + ";far8;");
    fault(39, SEVEN + ";far8;far9");
    fault(41, SEVEN + ";far8  ;");
    // A fault ahead of it comes first.
    fault(35, SEVEN + ";fax8;far9");
    fault(38, SEVEN + ";far;far9");
    fault(0, ";far1");
    fault(5, "far1;;far2");
    fault(4, "far1:far2");
    fault(4, "far1<far2");
    BlackGlass x = told(SEVEN + ";far8");
    due(8, x.count(4));
  }

  private static void words() {
    says("place P Y Z W. flow F P Y A B C S. land P Q M. boat P Q M. near N. far N.");
    String[] good = {"place 1 2 3 4", "flow 1 2 3 4 5 6 7", "land 1 2 3", "boat 1 2 3", "near 1", "far 1"};
    for (String line : good) {
      int end = line.indexOf(' ');
      String word = line.substring(0, end), rest = line.substring(end);
      fault(NONE, line);
      // One letter less, more, other, in capitals, and apart.
      fault(0, word.substring(0, end - 1) + rest);
      fault(0, word.substring(1) + rest);
      fault(0, word + "s" + rest);
      fault(0, "a" + word + rest);
      fault(0, word.substring(0, end - 1) + "z" + rest);
      fault(0, "z" + word.substring(1) + rest);
      fault(0, word.toUpperCase() + rest);
      fault(0, word.substring(0, 1) + " " + word.substring(1) + rest);
      fault(0, word + word + rest);
      // One number more, one less.
      fault(line.length() + 1, line + " 1");
      fault(line.lastIndexOf(' '), line.substring(0, line.lastIndexOf(' ')));
      fault(line.lastIndexOf(' ') + 1, line.substring(0, line.lastIndexOf(' ') + 1) + ";far 1");
      // A word where a number is due.
      fault(end + 1, word + " " + line);
      fault(line.length() + 1, line + " " + line);
      fault(line.length() + 1, line + ";x");
    }
    fault(0, "1");
    fault(0, "points 1");
    fault(6, "near 1. far 1.");
  }

  private static void digits() {
    says("numbers of 1 to 4 digits");
    fault(4, "near");
    fault(NONE, "near 5");
    fault(NONE, "near 05");
    fault(NONE, "near 005");
    fault(NONE, "near 0005");
    fault(5, "near 00005");
    fault(5, "near 000000000000000000000000000005");
    fault(5, "near 4294967296");
    fault(5, "near 4294967301");
    fault(5, "near 18446744073709551617");
    fault(NONE, "place 0001 0002 0003 0004");
    fault(6, "place 00001 2 3 4");
    fault(8, "place 1 00002 3 4");
    fault(10, "place 1 2 00003 4");
    fault(12, "place 1 2 3 00004");
    BlackGlass x = told("place 0009 0012 0345 0067;near 0999");
    due(12, x.place(9, 0));
    due(345, x.place(9, 1));
    due(67, x.place(9, 2));
    due(999, x.count(3));
    fault(5, "near -1");
    fault(5, "near +1");
    fault(6, "near 1.5");
    fault(6, "near 1e2");
    fault(6, "near 0x9");
  }

  private static void signs() {
    says("small letters a .. z");
    // Each byte behind a word, and in it: small letters go on with it, a digit begins a number.
    for (int sign = 0; sign < 256; sign++) {
      String it = String.valueOf((char) sign);
      boolean letter = sign >= 97 && sign <= 122, digit = sign >= 48 && sign <= 57;
      fault(letter ? 0 : digit || sign == 32 ? NONE : 4, "near" + it + (digit ? "" : "5"));
      // A ; can stand there, and the end behind it comes too soon.
      fault(digit || sign == 32 ? NONE : sign == 59 ? 7 : 6, "near 5" + it);
      fault(sign == 32 ? NONE : 0, it + "near 5");
      if (sign == 'e') fault(NONE, "n" + it + "ar 5");
      else if (!letter && sign != 32) fault(0, "n" + it + "ar 5");
      fault(digit ? NONE : sign == 32 ? 6 : 5, "near " + it);
    }
    for (int letter = 'a'; letter <= 'z'; letter++) fault(7, "near 5;" + (char) letter + " 5");
  }

  private static void blanks() {
    says("blanks (32) may stand ahead of, between, behind TOKENS");
    fault(NONE, " near 5");
    fault(NONE, "   near   5   ");
    fault(NONE, "near 5 ;far 5");
    fault(NONE, "near 5; far 5");
    fault(NONE, "  near  5  ;  far  5  ");
    fault(4, "near" + (char) 31 + "5");
    fault(4, "near" + (char) 33 + "5");
    fault(4, "near" + (char) 9 + "5");
    fault(4, "near" + (char) 10 + "5");
    fault(4, "near" + (char) 13 + "5");
    fault(4, "near" + (char) 0 + "5");
    fault(4, "near" + (char) 160 + "5");
    fault(0, "ne ar 5");
    fault(7, "near 1 2");
    says("and need not where a TOKEN ends without");
    fault(NONE, "near5;far6;place1 2 3 4;flow1 2 3 4 5 6 7;land1 2 3;boat1 2 3");
    fault(NONE, "near5;far6");
    fault(0, "nearfar 5");
    fault(6, "near 5far 6");
    // Without a blank two numbers are one.
    fault(11, "place1 2 34");
    BlackGlass x = told("near5;far 6 ;place1 2 3 4");
    due(5, x.count(3));
    due(6, x.count(4));
    due(4, x.place(1, 2));
  }

  private static void firstFault() {
    says("A FAULT is at the first TOKEN (a row of small letters, a row of digits, any other byte) that cannot stand there");
    fault(7, "near 5;nearer;fare;far 1000");
    fault(5, "near 1000;nearer");
    fault(5, "near 1000 1000");
    fault(7, "near 5 1000");
    fault(2, "  xyz 5");
    fault(5, "near xyz");
    fault(5, "near ..");
    fault(5, "near .5");
    fault(6, "place 10 10000 10000 0");
    fault(8, "place 1 10000 10000 0");
    says("a number out of its bounds, of more digits, or below the one ahead that it must not be below, also");
    fault(5, "near 1000");
    fault(5, "near 00001");
    fault(10, "place 1 2 1 0");
    fault(12, "place 1 2 2 0");
    // Bytes from 128 on are bytes as well, not numbers below 0.
    fault(0, (char) 128 + "near 5");
    fault(6, "near 5" + (char) 255);
  }

  private static void tooSoon() {
    says("or at the end, if it comes too soon");
    fault(0, "");
    fault(1, " ");
    fault(4, "near");
    fault(7, "near   ");
    fault(7, "near 5;");
    fault(8, "near 5; ");
    String[] whole = {"place 1 2 3 4", "flow 1 2 3 4 5 6 7", "land 1 2 3", "boat 1 2 3"};
    for (String line : whole) {
      for (int end = line.indexOf(' '); end < line.length(); end++) fault(end, line.substring(0, end));
      fault(NONE, line);
      for (int end = line.indexOf(' '); end < line.length(); end++) fault(7 + end, "near 1;" + line.substring(0, end));
    }
    fault(200, " ".repeat(200));
    fault(200, " ".repeat(196) + "near");
    fault(0, "nea");
  }

  private static void orders() {
    says("LINES are done in their order.");
    BlackGlass x = told("near 1;near 2;near 3");
    due(3, x.count(3));
    tell(x, "far 9;far 8");
    due(8, x.count(4));
    tell(x, "land 0 1 5;land 1 0 6");
    due(6, x.way(0, 1, 0));
    tell(x, "land 0 1 0;land 0 1 7");
    due(7, x.way(1, 0, 0));
    tell(x, "land 0 1 7;land 0 1 0");
    due(0, x.way(1, 0, 0));
    tell(x, "place 4 1 2 3;place 4 5 6 7");
    due(5, x.place(4, 0));
    due(6, x.place(4, 1));
    due(7, x.place(4, 2));
    tell(x, "flow 4 1 1 1 1 1 1;flow 4 2 3 4 5 6 7");
    for (int w = 0; w < 6; w++) due(2 + w, x.flow(4, w));
    due(1, x.count(0));
    says("what earlier texts told stays, where nothing else is told");
    BlackGlass y = told("place 1 2 3 4;flow 0 1 2 3 4 5 6;land 1 2 3;boat 1 2 4", "near 5;far 6");
    tell(y, "place 2 5 6 7;flow 1 2 3 4 5 6 7;land 1 3 9;boat 2 3 9");
    for (int w = 0; w < 3; w++) due(2 + w, y.place(1, w));
    for (int w = 0; w < 6; w++) due(1 + w, y.flow(0, w));
    due(3, y.way(1, 2, 0));
    due(4, y.way(1, 2, 1));
    due(5, y.count(3));
    due(6, y.count(4));
    due(2, y.count(0));
    tell(y, "near 9");
    due(6, y.count(4));
    due(9999, y.place(0, 1));
    due(9999, y.place(3, 1));
    due(UNKNOWN, y.flow(2, 0));
    due(0, y.way(1, 3, 1));
    due(0, y.way(2, 3, 0));
  }

  private static void writing() {
    says("n (1 .. 8) bytes more of THE TEXT, byte i being bytes >> 8 i & 255: how many it has. OUTSIDE; FULL.");
    bounds(1, 8, OUTSIDE, 1, n -> Math.min(1, new BlackGlass().write(0, n)));
    for (int n = 1; n <= 8; n++) {
      BlackGlass x = new BlackGlass();
      due(n, x.write(0, n));
      due(2 * n, x.write(0, n));
      due(2 * n, x.count(1));
    }
    // Eight bytes, the highest with its highest bit; and those from n on don't count.
    BlackGlass y = new BlackGlass();
    due(8, y.write(0xFF35207261656E20L, 8));
    due(7, y.fault());
    y.erase();
    due(7, y.write(0xFF35207261656E20L, 7));
    due(NONE, y.fault());
    due(1, y.land());
    due(5, y.count(3));
    // n is looked at ahead of the room.
    BlackGlass full = withBytes(200);
    due(OUTSIDE, full.write(32, 0));
    due(OUTSIDE, full.write(32, 9));
    due(OUTSIDE, full.write(32, -1));
    due(FULL, full.write(32, 1));
    due(FULL, full.write(32, 8));
    due(200, full.count(1));
    due(200, full.erase());
    due(8, full.write(32, 8));
  }

  private static void erasing() {
    says("THE TEXT is empty: how many bytes it had.");
    due(0, new BlackGlass().erase());
    due(1, withBytes(1).erase());
    due(199, withBytes(199).erase());
    due(200, withBytes(200).erase());
    BlackGlass x = told("near 5");
    write(x, "near 6");
    due(6, x.erase());
    due(0, x.erase());
    due(0, x.count(1));
    due(5, x.count(3));
    // What was erased doesn't come back behind a shorter text.
    write(x, "far 1;far 2");
    x.erase();
    write(x, "far 3");
    due(NONE, x.fault());
    due(1, x.land());
    due(3, x.count(4));
  }

  private static void faulting() {
    says("The place of the FAULT (the byte with which the TOKEN begins, or the length); NONE.");
    fault(NONE, "near 999");
    fault(5, "near 1000");
    fault(8, "near    1000");
    fault(3, "   nearest");
    fault(9, "near     ");
    BlackGlass x = new BlackGlass();
    due(0, x.fault());
    write(x, "near");
    due(4, x.fault());
    write(x, " 5");
    due(NONE, x.fault());
    write(x, "00");
    due(NONE, x.fault());
    write(x, "0");
    due(5, x.fault());
    due(9, x.count(1));
    due(20, x.count(3));
  }

  private static void landing() {
    says("THE TEXT's LINES are done, and it is empty then: how many there were. NOT: it has a FAULT.");
    BlackGlass x = new BlackGlass();
    due(NOT, x.land());
    for (int many = 1; many <= 8; many++) {
      StringBuilder text = new StringBuilder("near " + many);
      for (int i = 1; i < many; i++) text.append(";far ").append(i);
      write(x, text.toString());
      due(many, x.land());
      due(many, x.count(3));
      due(0, x.count(1));
      due(NOT, x.land());
    }
    // No line of a text with a fault is done, and the text stays.
    write(x, "near 500;far 500;place 1 2 3 0");
    due(NOT, x.land());
    due(30, x.count(1));
    due(8, x.count(3));
    due(7, x.count(4));
    due(29, x.fault());
    write(x, "05");
    due(3, x.land());
    due(500, x.count(3));
    due(5, x.place(1, 2));
    write(x, SEVEN + ";far8;");
    due(NOT, x.land());
    due(500, x.count(4));
    due(40, x.count(1));
  }

  private static void asking() {
    says("Of a PLACE: LIVE from (what 0), to (1), WARMTH (2). UNKNOWN; OUTSIDE.");
    BlackGlass x = told("place 0 11 12 13;place 9 21 22 23;flow 0 1 2 3 4 5 6;flow 8 9 8 7 6 5 4");
    bounds(0, 9, UNKNOWN, 1, p -> Math.min(1, x.place(p, 0)));
    bounds(0, 2, OUTSIDE, 1, w -> Math.min(1, x.place(0, w)));
    due(11, x.place(0, 0));
    due(12, x.place(0, 1));
    due(13, x.place(0, 2));
    due(21, x.place(9, 0));
    due(22, x.place(9, 1));
    due(23, x.place(9, 2));
    due(UNKNOWN, x.place(-1, -1));
    due(UNKNOWN, x.place(10, 3));
    says("Of a FLOW: PLACE (what 0), OPEN (1), STUFFS (2 .. 4), SPREAD (5). UNKNOWN: not told; OUTSIDE.");
    bounds(0, 8, UNKNOWN, 1, f -> Math.min(1, x.flow(f, 0)));
    bounds(0, 5, OUTSIDE, 1, w -> Math.min(1, x.flow(8, w)));
    for (int f = 1; f < 8; f++) due(UNKNOWN, x.flow(f, 0));
    for (int w = 0; w < 6; w++) due(1 + w, x.flow(0, w));
    for (int w = 0; w < 6; w++) due(9 - w, x.flow(8, w));
    due(UNKNOWN, x.flow(1, 6));
    due(UNKNOWN, x.flow(9, -1));
    says("Miles of a WAY by LAND (what 0), BOAT (1); 0: none. UNKNOWN: also one and itself; OUTSIDE.");
    BlackGlass y = told("land 0 9 5;boat 0 9 6;land 4 5 999;boat 5 6 1");
    bounds(1, 9, UNKNOWN, 1, p -> Math.min(1, told("land 0 1 1;land 0 9 1").way(0, p, 0)));
    bounds(0, 8, UNKNOWN, 1, p -> Math.min(1, told("land 9 0 1;land 8 9 1").way(p, 9, 0)));
    bounds(0, 1, OUTSIDE, 1, w -> Math.min(1, y.way(0, 9, w)));
    for (int p = 0; p < 10; p++) {
      due(UNKNOWN, y.way(p, p, 0));
      due(UNKNOWN, y.way(p, p, 2));
    }
    due(UNKNOWN, y.way(10, 10, 0));
    due(UNKNOWN, y.way(-1, 0, 2));
    due(999, y.way(5, 4, 0));
    due(0, y.way(5, 4, 1));
    due(0, y.way(5, 6, 0));
    due(1, y.way(6, 5, 1));
  }

  private static BlackGlass fresh(List<Calls.Step> steps) {
    BlackGlass x = new BlackGlass();
    Calls.makeAll(x, steps);
    return x;
  }

  private static void manyCalls() {
    says("An object is used for at most 512 calls after it has been made");
    BlackGlass x = new BlackGlass();
    for (int i = 0; i < 127; i++) {
      due(6, x.write(0x7261656EL | (' ' | (long) ('0' + i % 10) << 8) << 32, 6));
      due(NONE, x.fault());
      due(1, x.land());
      due(i % 10, x.count(3));
    }
    due(0, x.erase());
    due(8, x.write(0x2020202020202020L, 8));
    due(8, x.fault());
    due(6, x.count(3));
    // The dearest calls of a full object, up to its last one, answer as the first did.
    List<Calls.Step> full = Calls.stateOf(Calls.State.FULL);
    String[] dear = {"boats", "sea", "next", "fault"};
    BlackGlass y = new BlackGlass();
    Calls.makeAll(y, full);
    for (int made = full.size(); made + 8 <= 512; made += 8) {
      due(12, y.chain(-1));
      due(11, y.chain(-2));
      due(0, y.law(0, 0) < 0 ? 1 : 0);
      due(2047, y.from(11));
      for (String name : dear) due(Calls.make(fresh(full), new Calls.Step(name)), Calls.make(y, new Calls.Step(name)));
    }
    // One object knows nothing of another one.
    BlackGlass a = told("near 1"), b = told("near 2");
    due(1, a.count(3));
    due(2, b.count(3));
    plain(a, 0, 1, 0);
    due(0, b.count(2));
  }
}
