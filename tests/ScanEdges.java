import java.util.Arrays;

/** The scan: for each sentence of the document that names a boundary, a test. */
public final class ScanEdges extends Sentences {
  public static void main(String[] args) throws Exception {
    runAll(ScanEdges.class);
  }

  /** A scan so wide and high, each dot so dark. */
  private static void plain(int w, int h, int v) {
    due("blank(" + w + ", " + h + ")", r.blank(w, h), true);
    due("fill", r.fill(0, 0, 40, 40, v), (long) w * h);
  }

  // ---- a new object

  @Says(promise = 1, words = "All as told in brackets; corners told at (3, 3), (20, 3), (3, 20), (20, 20)")
  static void aNewObject() {
    int[] counts = {24, 24, 0, 0, 0, 0, 0, 1, 0, 0, 0};
    for (int i = 0; i < counts.length; i++) due("count(" + i + ")", r.count(i), counts[i]);
    int[] settings = {5, 2, 6, 6, 4, 3, 0};
    for (int k = 0; k < 7; k++) due("set(" + k + ")", r.set(k, settings[k]), settings[k]);
    due("laid", r.laid(0, 0), MIN);
    for (int i = 0; i < 3; i++) due("back(" + i + ")", r.back(i), false);
    form(PLAIN);
    due("told", r.tick(0, 0) + r.tick(1, 0), 0);
    due("print", r.print(1), 36);
    int[][] corners = {{3, 3}, {20, 3}, {3, 20}, {20, 20}};
    for (int[] c : corners) {
      for (int i = 0; i < 9; i++) due("dot", r.dot(c[0] - 1 + i % 3, c[1] - 1 + i / 3), 9);
    }
  }

  @Says(words = "(8 to 40 each; 24 by 24 at first), x from 0 to the right, y from 0 down, each of DARKNESS 0 to 9 (0 at first)")
  static void aScanAtFirst() {
    due("W", r.count(0), 24);
    due("H", r.count(1), 24);
    due("the last dot", r.dot(23, 23), 0);
    due("none behind it", r.dot(24, 23), -1);
    due("none below it", r.dot(23, 24), -1);
    due("in all", r.count(10), 0);
    row(0, "0".repeat(23) + "7");
    due("x goes to the right", r.dot(23, 0), 7);
    row(23, "5" + "0".repeat(23));
    due("y goes down", r.dot(0, 23), 5);
  }

  @Says(words = "An object is used for at most 512 calls after it has been made")
  static void the512thCall() {
    for (int i = 1; i <= 510; i++) due("fill", r.fill(i % 24, i / 24, 1, 1, i % 10), 1);
    due("call 511", r.dot(509 % 24, 509 / 24), 9);
    due("call 512", r.dot(23, 23), 0);
  }

  // ---- its size, its dots

  @Says(promise = 7, words = "THE SCAN is w by h DOTS, all 0 (corners told stay): true; false: no such ones")
  static void scansOf8To40() {
    int[][] told = {{8, 8}, {8, 40}, {40, 8}, {40, 40}, {9, 39}};
    for (int[] s : told) {
      plain(s[0], s[1], 9);
      due("dots", r.count(10), 9L * s[0] * s[1]);
      due("blank again", r.blank(s[0], s[1]), true);
      due("all 0", r.count(10), 0);
      due("W", r.count(0), s[0]);
      due("H", r.count(1), s[1]);
      due("the last dot", r.dot(s[0] - 1, s[1] - 1), 0);
      due("none behind it", r.dot(s[0], 0), -1);
      due("none below it", r.dot(0, s[1]), -1);
    }
    plain(9, 10, 3);
    int[][] none = {{7, 8}, {8, 7}, {41, 40}, {40, 41}, {0, 0}, {-8, 8}, {8, -8}, {7, 41}};
    for (int[] s : none) due("blank(" + s[0] + ", " + s[1] + ")", r.blank(s[0], s[1]), false);
    for (int far : FAR) due("blank by " + far, r.blank(far, 8) || r.blank(8, far), false);
    due("W stays", r.count(0), 9);
    due("H stays", r.count(1), 10);
    due("dots stay", r.count(10), 270);
  }

  @Says(words = "(8 to 40 each;")
  static void allThatChangesTheLargestAndTheLeastScan() {
    for (int side : new int[] {40, 8}) {
      int all = side * side;
      plain(side, side, 3);
      r.fill(side - 1, side - 1, 1, 1, 5);
      due("stretch", r.stretch(), all);
      due("the first dot", r.dot(0, 0), 0);
      due("the last dot", r.dot(side - 1, side - 1), 9);
      due("level", r.level(), 1);
      due("turn(2)", r.turn(2), side);
      due("the first dot", r.dot(0, 0), 9);
      due("copy", r.copy(0, 0, 40, 40, side - 1, side - 1), 1);
      due("the last dot", r.dot(side - 1, side - 1), 9);
      due("clean", r.clean(), 2);
      due("all 0", r.count(10), 0);
      r.fill(0, 0, 40, 40, 7);
      due("smooth", r.smooth(), 0);
      r.fill(side - 2, side - 2, 2, 2, 9);
      due("smooth: the one with 4 of 9 alone", r.smooth(), 1);
      due("it", r.dot(side - 2, side - 2), 7);
      due("the last dot, of four", r.dot(side - 1, side - 1), 9);
      due("ink is one", r.blob(-1, 0), 1);
      due("of all", r.blob(0, 0), all);
      due("keep", r.keep(2), true);
      due("shift", r.shift(1 - side, 1 - side), all);
      due("what is left", r.dot(0, 0), 9);
      due("in all", r.count(10), 9);
      due("back", r.back(2), true);
      due("in all", r.count(10), all * 7L + 3 * 2);
      due("row", row(side - 1, "1".repeat(side)), true);
      due("noise", r.noise(500) > 0, true);
    }
  }

  @Says(promise = 7, words = "THE SCAN is w by h DOTS, all 0")
  static void nothingIsLeftOfALargerScan() {
    // all ways in which a scan comes to be another one, first on 40 by 40 dots of ink, then on a smaller one
    for (int way = 0; way < 6; way++) {
      r = new SheetReader();
      plain(40, 40, 9);
      r.keep(1);
      change(way);
      r.fill(0, 0, 40, 40, 9);
      change(way);
      due("blank", r.blank(9, 8), true);
      due("all 0", r.count(10), 0);
      r.fill(0, 7, 9, 1, 9);
      r.keep(1);
      change(way);
      due("no more than its dots, by " + way, r.count(10), r.count(9) * 9L);
      due("ink hangs together in it alone", r.blob(-1, 0), 1);
      due("of as many dots", r.blob(0, 0), r.count(9));
      due("nothing is a speck", r.clean(), 0);
      due("level", r.level(), 1);
      due("dots right of it are none", r.dot(r.count(0), 0), -1);
      due("dots below it are none", r.dot(0, r.count(1)), -1);
      r.shift(0, 1);
      due("what comes in from above is 0", r.dot(0, 0), 0);
    }
  }

  private static void change(int way) {
    switch (way) {
      case 0: r.turn(0); break;
      case 1: r.turn(2); break;
      case 2: r.shift(1, 0); break;
      case 3: r.copy(0, 0, 1, 1, 1, 1); break;
      case 4: r.stretch(); break;
      default: r.back(1); break;
    }
  }

  @Says(promise = 7, words = "(corners told stay)")
  static void cornersStayByBlank() {
    form(PLAIN);
    r.corner(0, 1, 1);
    r.blank(40, 40);
    due("print", r.print(5), 36);
    due("corner 0", r.dot(0, 0), 9);
    due("corner 3 as at first", r.dot(21, 21), 9);
    r.blank(21, 40);
    due("corner 1 lies at the side now", r.print(5), -2);
    r.blank(22, 40);
    due("it lies 1 from it", r.print(5), 36);
  }

  @Says(promise = 4, words = {"0 W, 1 H", "9 DOTS of INK, 10 DARKNESS of all DOTS"})
  static void countsOfTheScan() {
    plain(40, 8, 9);
    due("W", r.count(0), 40);
    due("H", r.count(1), 8);
    due("ink", r.count(9), 320);
    due("darkness", r.count(10), 2880);
    plain(40, 40, 9);
    due("the most ink", r.count(9), 1600);
    due("the most darkness", r.count(10), 14400);
    r.fill(0, 0, 40, 20, 4);
    due("below LEVEL", r.count(9), 800);
    r.fill(0, 0, 40, 10, 5);
    due("LEVEL", r.count(9), 1200);
    r.set(0, 9);
    due("by level 9", r.count(9), 800);
    r.set(0, 1);
    r.fill(0, 0, 1, 1, 0);
    due("by level 1", r.count(9), 1599);
  }

  @Says(promise = 4, words = "6 bytes of the tape, 7 X, 8 sheets of THE PILE")
  static void countsFromTheirLeastToTheirMost() {
    due("bytes", r.count(6), 0);
    for (int i = 1; i <= 24; i++) r.feed(0, 0, 0, 0, 0);
    due("bytes", r.count(6), 480);
    due("the tape is emptied", r.form(400), -1000);
    due("bytes", r.count(6), 0);
    r.seed(0);
    due("X", r.count(7), 0);
    r.seed(-1);
    due("X", r.count(7), 65535);
    form("size 17 17;box 2 2;");
    r.print(9);
    due("sheets", r.count(8), 0);
    for (int s = 1; s <= 16; s++) {
      r.lay();
      due("sheets", r.count(8), s);
    }
    r.lay();
    due("sheets", r.count(8), 16);
    r.take(0);
    due("sheets", r.count(8), 15);
  }

  @Says(promise = 8, words = "Row y of THE SCAN by the tape's first W bytes (empty then), digits: true")
  static void rowsByTheFirstBytes() {
    r.blank(20, 8);
    due("exactly W", row(7, "01234567890123456789"), true);
    due("the tape is empty", r.count(6), 0);
    rowIs(7, "01234567890123456789");
    due("the other rows stay", r.count(10), 90);
    due("more than W", row(0, "9".repeat(20) + "no digit"), true);
    due("all of the tape is gone", r.count(6), 0);
    due("in all", r.count(10), 270);
    r.blank(40, 8);
    due("two feeds", row(0, "1".repeat(40)), true);
    due("in all", r.count(10), 40);
  }

  @Says(promise = 8, words = "false: another byte (the row stays)")
  static void rowsWithAnotherByte() {
    r.blank(8, 8);
    row(2, "12345678");
    String[] texts = {"/2222222", "2222222/", "2222222:", ":2222222", "222 2222", "222\n2222", "222a2222", "222\u00b02222", "222\u01002222"};
    for (int i = 0; i < 8; i++) {
      due("row of " + texts[i], row(2, texts[i]), false);
      due("the tape is empty", r.count(6), 0);
      rowIs(2, "12345678");
    }
    due("a byte behind the row", row(2, "87654321/"), true);
    rowIs(2, "87654321");
  }

  @Says(promise = 8, words = {"no such row", "it has not so many (by both the tape stays)"})
  static void noSuchRow() {
    r.blank(21, 8);
    tell("5".repeat(20));
    due("20 of 21", r.row(0), false);
    due("the tape stays", r.count(6), 20);
    r.blank(20, 8);
    for (int y : new int[] {-1, 8, 9, 20, -8}) due("row(" + y + ")", r.row(y), false);
    for (int far : FAR) due("row(" + far + ")", r.row(far), false);
    due("the tape stays", r.count(6), 20);
    due("row(7)", r.row(7), true);
    due("by what stood on it", r.count(10), 100);
    due("on an empty tape", r.row(7), false);
    due("the row stays", r.count(10), 100);
    r.blank(8, 40);
    tell("x");
    due("no such row, and another byte", r.row(40), false);
    due("the tape stays", r.count(6), 20);
    due("row(39): another byte", r.row(39), false);
    due("the tape is empty", r.count(6), 0);
  }

  @Says(promise = 9, words = "as far as they lie in THE SCAN")
  static void fillsOverTheSides() {
    r.blank(20, 10);
    int[][] told = {{0, 0, 40, 40, 1, 200}, {19, 9, 40, 40, 2, 1}, {18, 0, 3, 2, 3, 4}, {0, 9, 2, 2, 4, 2}, {0, 0, 20, 10, 5, 200}, {19, 0, 1, 1, 5, 1}};
    for (int[] f : told) due("fill" + Arrays.toString(f), r.fill(f[0], f[1], f[2], f[3], f[4]), f[5]);
    plain(40, 40, 9);
    due("darkness", r.count(10), 14400);
    due("one dot", r.fill(39, 39, 1, 1, 0), 1);
    due("darkness", r.count(10), 14391);
    plain(8, 8, 0);
    r.fill(7, 3, 2, 1, 9);
    due("no dot of the next row", r.dot(0, 4), 0);
    due("in all", r.count(10), 9);
  }

  @Says(promise = 9, words = {"are of DARKNESS v (0 to 9): how many", "NONE: w or h is not 1 to 40", "no such v", "the first one is no DOT"})
  static void fillsThatAreRefused() {
    plain(20, 10, 3);
    int[][] none = {
      {0, 0, 0, 1, 1}, {0, 0, 1, 0, 1}, {0, 0, 41, 1, 1}, {0, 0, 1, 41, 1}, {0, 0, -1, 1, 1}, {0, 0, 1, -1, 1}, {0, 0, 1, 1, -1}, {0, 0, 1, 1, 10},
      {20, 0, 1, 1, 1}, {0, 10, 1, 1, 1}, {-1, 0, 3, 3, 1}, {0, -1, 3, 3, 1}, {-1, -1, 40, 40, 1}, {10, 20, 1, 1, 1},
    };
    for (int[] f : none) due("fill" + Arrays.toString(f), r.fill(f[0], f[1], f[2], f[3], f[4]), -1);
    for (int far : FAR) {
      for (int i = 0; i < 5; i++) {
        int[] f = {1, 1, 1, 1, 1};
        f[i] = far;
        due("fill" + Arrays.toString(f), r.fill(f[0], f[1], f[2], f[3], f[4]), -1);
      }
    }
    due("all stays", r.count(10), 600);
    due("v 0", r.fill(0, 0, 1, 1, 0), 1);
    due("v 9", r.fill(0, 0, 1, 1, 9), 1);
    due("then", r.count(10), 606);
  }

  @Says(promise = 10, words = "DARKNESS of a DOT; NONE: no such one")
  static void dotsThatAreNone() {
    plain(8, 40, 7);
    int[][] dots = {{0, 0}, {7, 0}, {0, 39}, {7, 39}};
    for (int[] d : dots) due("dot(" + d[0] + ", " + d[1] + ")", r.dot(d[0], d[1]), 7);
    int[][] none = {{8, 0}, {-1, 0}, {0, -1}, {0, 40}, {8, 39}, {7, 40}, {-1, -1}, {39, 7}};
    for (int[] d : none) due("dot(" + d[0] + ", " + d[1] + ")", r.dot(d[0], d[1]), -1);
    for (int far : FAR) {
      due("dot(" + far + ", 0)", r.dot(far, 0), -1);
      due("dot(0, " + far + ")", r.dot(0, far), -1);
    }
  }

  // ---- draws

  @Says(words = "X = (25173 X + 13849) modulo 65536 (X is 1 at first; told), then a draw below m: X / 4, cut, modulo m")
  static void drawsWrapAround() {
    due("X at first", r.count(7), 1);
    // three draws each: 1 39022 61087 20196, 65535 54212 36397 42250, 0 13849 48742 31223, 32768 46617 15974 63991
    int[][] rows = {{1, 20196, 11, 7}, {65535, 42250, 17, 3}, {0, 31223, 6, 17}, {32768, 63991, 14, 9}};
    // the third draw below 3: 5049 is 0, 10562 is 2, 7805 is 2, 15997 is 1
    int[] after = {4, 6, 6, 6};
    for (int i = 0; i < 4; i++) {
      plain(24, 24, 5);
      r.seed(rows[i][0]);
      due("noise(1) by " + rows[i][0], r.noise(1), 1);
      due("X", r.count(7), rows[i][1]);
      due("the dot", r.dot(rows[i][2], rows[i][3]), after[i]);
      due("in all", r.count(10), 5 * 576 + after[i] - 5);
    }
  }

  @Says(words = "a DOT (x below W, then y below H), then DARKNESS by a draw below 3")
  static void noiseByTheSidesOfTheScan() {
    // by 1: X / 4 are 9755, 15271
    plain(40, 8, 5);
    due("noise(1)", r.noise(1), 1);
    due("x below 40, y below 8", r.dot(35, 7), 4);
    plain(8, 40, 5);
    r.seed(1);
    due("noise(1)", r.noise(1), 1);
    due("x below 8, y below 40", r.dot(3, 31), 4);
  }

  @Says(words = "0 one less (0 at least), else one more (9 at most)")
  static void noiseFrom0To9() {
    // the third draw below 3 is 0 by 1, 1 by 3, 2 by 0; the dots of 8 by 8 are (3, 7), (6, 4), (6, 1)
    int[][] rows = {{1, 3, 7, -1}, {3, 6, 4, 1}, {0, 6, 1, 1}};
    for (int[] o : rows) {
      for (int v = 0; v <= 9; v++) {
        plain(8, 8, v);
        r.seed(o[0]);
        int want = Math.max(0, Math.min(9, v + o[3]));
        due("noise(1) of " + v + " by " + o[0], r.noise(1), want == v ? 0 : 1);
        due("the dot", r.dot(o[1], o[2]), want);
        due("in all", r.count(10), 64L * v + want - v);
      }
    }
  }

  @Says(promise = 11, words = {"NOISE so many times (0 to 500): how often a DOT changed", "NONE: no such number"})
  static void noiseOf0To500() {
    plain(24, 24, 5);
    due("noise(0)", r.noise(0), 0);
    due("X stays", r.count(7), 1);
    for (int many : new int[] {-1, 501, -500, 502, 1000}) due("noise(" + many + ")", r.noise(many), -1);
    for (int far : FAR) due("noise(" + far + ")", r.noise(far), -1);
    due("X stays", r.count(7), 1);
    due("all stays", r.count(10), 2880);
    r.blank(24, 24);
    int changed = r.noise(500);
    due("X by 1500 draws", r.count(7), 40725);
    // each change is one more or one less, so both are odd, or even
    due("some are refused at 0", changed > 250 && changed < 500 && (changed - r.count(10)) % 2 == 0, true);
  }

  @Says(promise = 11, words = "how often a DOT changed")
  static void noiseCountsADotTwice() {
    // once more from the same X: the same dot is drawn, and goes from 8 on to 7
    plain(8, 8, 8);
    due("noise(1)", r.noise(1), 1);
    r.seed(1);
    due("noise(1)", r.noise(1), 1);
    due("the dot", r.dot(3, 7), 6);
    plain(8, 8, 5);
    due("400 times: more changes than there are dots", r.noise(400) > 64, true);
  }

  @Says(promise = 12, words = "X is x modulo 65536 (0 to 65535; of an int below 0, too): what it was")
  static void seedsWrapAround() {
    int[][] rows = {{0, 0}, {65535, 65535}, {65536, 0}, {65537, 1}, {131071, 65535}, {-1, 65535}, {-65535, 1}, {-65536, 0}, {-65537, 65535}, {MAX, 65535}, {MIN, 0}, {MIN + 7, 7}};
    int was = 1;
    for (int[] o : rows) {
      due("seed(" + o[0] + ")", r.seed(o[0]), was);
      due("X", r.count(7), o[1]);
      was = o[1];
    }
  }

  // ---- turned, copied, shifted

  @Says(words = "TURNED by k quarters to the right (0 to 3): DOT (x, y) comes to (H - 1 - y, x) by each")
  static void turnedCornersOfTheScan() {
    // the corners of 9 by 8: 1 2 3 4, each as upper left, upper right, lower left, lower right
    int[][] want = {{1, 2, 3, 4}, {3, 1, 4, 2}, {4, 3, 2, 1}, {2, 4, 1, 3}};
    for (int k = 0; k < 4; k++) {
      r.blank(9, 8);
      r.fill(0, 0, 1, 1, 1);
      r.fill(8, 0, 1, 1, 2);
      r.fill(0, 7, 1, 1, 3);
      r.fill(8, 7, 1, 1, 4);
      r.fill(2, 1, 1, 1, 5);
      due("turn(" + k + ")", r.turn(k), k % 2 == 0 ? 9 : 8);
      int w = r.count(0);
      int h = r.count(1);
      due("H", h, k % 2 == 0 ? 8 : 9);
      int[] got = {r.dot(0, 0), r.dot(w - 1, 0), r.dot(0, h - 1), r.dot(w - 1, h - 1)};
      for (int i = 0; i < 4; i++) due("corner " + i + " by " + k, got[i], want[k][i]);
      int[][] five = {{2, 1}, {6, 2}, {6, 6}, {1, 6}};
      due("(2, 1) by " + k, r.dot(five[k][0], five[k][1]), 5);
      due("in all", r.count(10), 15);
    }
  }

  @Says(promise = 13, words = "TURNED by k quarters: W then; NONE: no such k")
  static void noSuchQuarters() {
    plain(40, 8, 1);
    r.fill(0, 0, 1, 1, 9);
    for (int k : new int[] {-1, 4, 5, -4, 8}) due("turn(" + k + ")", r.turn(k), -1);
    for (int far : FAR) due("turn(" + far + ")", r.turn(far), -1);
    due("it stays", r.dot(0, 0), 9);
    due("turn(0)", r.turn(0), 40);
    due("it stays", r.dot(0, 0), 9);
    due("turn(3)", r.turn(3), 8);
    due("turn(3)", r.turn(3), 40);
    due("it is opposite", r.dot(39, 7), 9);
    due("turn(2)", r.turn(2), 40);
    due("it is back", r.dot(0, 0), 9);
  }

  @Says(promise = 14, words = "come to (u, v) and on, by what was, those alone that lie in THE SCAN, there and here: how many DOTS are others then")
  static void copiesOverTheSidesAndThemselves() {
    r.blank(10, 8);
    row(0, "1234567890");
    due("one further, over itself", r.copy(0, 0, 9, 1, 1, 0), 9);
    rowIs(0, "1123456789");
    due("one back, over itself", r.copy(1, 0, 9, 1, 0, 0), 8);
    rowIs(0, "1234567899");
    due("down, over itself", r.copy(0, 0, 10, 7, 0, 1), 10);
    rowIs(1, "1234567899");
    rowIs(2, "0000000000");
    due("onto itself", r.copy(0, 0, 40, 40, 0, 0), 0);
    due("what lies there alone", r.copy(0, 0, 40, 40, 8, 7), 2);
    rowIs(7, "0000000012");
    due("what lies here alone", r.copy(9, 7, 40, 40, 0, 5), 1);
    rowIs(5, "2000000000");
    r.fill(0, 4, 9, 4, 9);
    due("what lies there alone, nothing behind it", r.copy(9, 6, 40, 40, 0, 4), 2);
    rowIs(4, "0999999990");
    rowIs(5, "2999999990");
    rowIs(6, "9999999990");
    rowIs(7, "9999999992");
    r.fill(0, 4, 10, 3, 0);
    due("no dot of the next row", r.copy(7, 0, 5, 1, 2, 3), 3);
    rowIs(3, "0089900000");
    rowIs(4, "0000000000");
  }

  @Says(promise = 14, words = {"NONE: w or h is not 1 to 40", "(x, y)", "(u, v) is no DOT"})
  static void copiesThatAreRefused() {
    r.blank(10, 8);
    row(0, "1234567890");
    int[][] none = {
      {0, 0, 0, 1, 0, 1}, {0, 0, 1, 0, 0, 1}, {0, 0, 41, 1, 0, 1}, {0, 0, 1, 41, 0, 1}, {0, 0, -1, 1, 0, 1}, {0, 0, 1, -1, 0, 1},
      {10, 0, 1, 1, 0, 1}, {0, 8, 1, 1, 0, 1}, {-1, 0, 2, 2, 0, 1}, {0, -1, 2, 2, 0, 1},
      {0, 0, 1, 1, 10, 0}, {0, 0, 1, 1, 0, 8}, {0, 0, 2, 2, -1, 1}, {0, 0, 2, 2, 1, -1},
    };
    for (int[] c : none) due("copy" + Arrays.toString(c), r.copy(c[0], c[1], c[2], c[3], c[4], c[5]), -1);
    for (int far : FAR) {
      for (int i = 0; i < 6; i++) {
        int[] c = {1, 0, 1, 1, 1, 1};
        c[i] = far;
        due("copy" + Arrays.toString(c), r.copy(c[0], c[1], c[2], c[3], c[4], c[5]), -1);
      }
    }
    due("all stays", r.count(10), 45);
    rowIs(0, "1234567890");
    due("the last dot", r.copy(0, 0, 1, 1, 9, 7), 1);
    due("from the last dot", r.copy(9, 7, 1, 1, 9, 0), 1);
    rowIs(0, "1234567891");
  }

  @Says(promise = 15, words = "Each DOT (x, y) has what (x - u, y - v) had (0, if that is no DOT): how many are others then")
  static void shiftsOverTheSides() {
    plain(8, 8, 3);
    r.fill(7, 7, 1, 1, 9);
    due("shift(0, 0)", r.shift(0, 0), 0);
    due("by 7 to the left and up", r.shift(-7, -7), 64);
    due("what stays", r.dot(0, 0), 9);
    due("in all", r.count(10), 9);
    due("by 7 to the right and down", r.shift(7, 7), 2);
    due("what stays", r.dot(7, 7), 9);
    due("by 8", r.shift(8, 0), 1);
    due("in all", r.count(10), 0);
    plain(8, 8, 3);
    due("by 1 to the right", r.shift(1, 0), 8);
    due("no dot of the row ahead", r.dot(0, 1), 0);
    due("in all", r.count(10), 168);
    due("by 1 up", r.shift(0, -1), 7);
    due("no dot below", r.dot(7, 7), 0);
  }

  @Says(promise = 15, words = "NONE: u or v is not -40 to 40")
  static void shiftsOf40() {
    plain(40, 40, 2);
    int[][] none = {{41, 0}, {-41, 0}, {0, 41}, {0, -41}, {41, 41}};
    for (int[] s : none) due("shift(" + s[0] + ", " + s[1] + ")", r.shift(s[0], s[1]), -1);
    for (int far : FAR) due("shift by " + far, r.shift(far, 0) + r.shift(0, far), -2);
    due("all stays", r.count(10), 3200);
    due("by 39", r.shift(39, -39), 1599);
    due("what stays", r.dot(39, 0), 2);
    int[][] away = {{40, 0}, {-40, 0}, {0, 40}, {0, -40}};
    for (int[] s : away) {
      plain(40, 40, 2);
      due("shift(" + s[0] + ", " + s[1] + ")", r.shift(s[0], s[1]), 1600);
      due("in all", r.count(10), 0);
    }
  }

  // ---- made better

  @Says(promise = 16, words = {"if unlike", "each DOT d is (d - l) times 9 by (g - l), cut: how many are others then"})
  static void stretchedOrAlike() {
    for (int v : new int[] {0, 5, 9}) {
      plain(8, 8, v);
      due("all " + v, r.stretch(), 0);
      due("they stay", r.count(10), 64L * v);
    }
    plain(8, 8, 0);
    row(0, "01234567");
    // 7 is the greatest: 9 by 7
    due("0 to 7", r.stretch(), 4);
    rowIs(0, "01235679");
    row(0, "01234568");
    due("0 to 8", r.stretch(), 1);
    rowIs(0, "01234569");
    due("0 to 9 stays", r.stretch(), 0);
    plain(8, 8, 8);
    r.fill(0, 0, 1, 1, 9);
    due("8 and 9", r.stretch(), 63);
    rowIs(0, "90000000");
    plain(8, 8, 1);
    r.fill(0, 0, 1, 1, 0);
    due("0 and 1", r.stretch(), 63);
    rowIs(0, "09999999");
    plain(8, 8, 3);
    r.fill(7, 7, 1, 1, 5);
    due("3 and 5", r.stretch(), 64);
    due("the first", r.dot(0, 0), 0);
    due("the last", r.dot(7, 7), 9);
    plain(8, 8, 9);
    row(7, "99999998");
    due("one alone is the least", r.stretch(), 1);
    due("it", r.dot(7, 7), 0);
  }

  @Says(promise = 17, words = "DOTS of INK that hang together in fewer than SPECK are 0: how many")
  static void specksBelowSpeckAlone() {
    r.blank(40, 8);
    r.fill(0, 0, 19, 1, 5);
    r.fill(20, 0, 20, 1, 5);
    r.fill(0, 2, 1, 1, 9);
    r.fill(0, 4, 39, 1, 4);
    r.set(1, 1);
    due("none below 1", r.clean(), 0);
    r.set(1, 2);
    due("one", r.clean(), 1);
    due("it is gone", r.dot(0, 2), 0);
    r.set(1, 19);
    due("19 stay", r.clean(), 0);
    r.set(1, 20);
    due("19 go", r.clean(), 19);
    due("20 stay", r.dot(20, 0) + r.dot(39, 0), 10);
    due("what is no ink stays", r.dot(38, 4), 4);
    due("in all", r.count(10), 100 + 156);
    r.set(0, 4);
    due("39 stay", r.clean(), 0);
    r.set(0, 6);
    due("no ink at all", r.clean(), 0);
    r.blank(8, 8);
    due("nothing at all", r.clean(), 0);
    r.set(0, 1);
    r.fill(0, 0, 8, 8, 1);
    due("all ink", r.clean(), 0);
  }

  @Says(promise = 17, words = "DOTS of INK that hang together in fewer than SPECK are 0")
  static void specksNotBySlantsNorOverTheSides() {
    r.blank(8, 8);
    rows("00000009", "90000000", "00900000", "00090000", "00000000", "09000000", "09000000");
    // the last dot of a row and the first of the next one do not hang together
    due("four alone", r.clean(), 4);
    due("two stay", r.count(10), 18);
    r.blank(8, 8);
    int[][] corners = {{0, 0}, {7, 0}, {0, 7}, {7, 7}};
    for (int[] c : corners) r.fill(c[0], c[1], 1, 1, 9);
    due("in the corners", r.clean(), 4);
    due("none stays", r.count(10), 0);
  }

  @Says(promise = 18, words = "Each DOT is the middle one, by DARKNESS (of two the lesser), of the 3 by 3 round it as far as they lie in THE SCAN (all by what was)")
  static void smoothedAtTheSides() {
    r.blank(8, 8);
    rows("12000000", "34000000", "56000000");
    // (0, 0): 1 2 3 4; (1, 0): 0 0 1 2 3 4; (0, 1): 1 to 6, it stays 3; (1, 1): 0 0 0 1 2 3 4 5 6; (0, 2): 0 0 3 4 5 6
    due("smooth", r.smooth(), 5);
    rowIs(0, "21000000");
    rowIs(1, "32000000");
    rowIs(2, "30000000");
    rowIs(3, "00000000");
    r.blank(8, 8);
    rows("00000012", "00000034");
    r.smooth();
    due("the corner on the right, of 1 2 3 4", r.dot(7, 0), 2);
    r.blank(8, 8);
    row(6, "12000012");
    row(7, "34000034");
    r.smooth();
    due("the corner below, of 1 2 3 4", r.dot(0, 7), 2);
    due("the last one", r.dot(7, 7), 2);
    plain(8, 8, 9);
    due("all 9", r.smooth(), 0);
    r.fill(0, 0, 1, 1, 0);
    due("one 0 in a corner", r.smooth(), 1);
    due("in all", r.count(10), 576);
    plain(8, 8, 0);
    due("all 0", r.smooth(), 0);
  }

  @Says(promise = 18, words = "(all by what was)")
  static void smoothedByWhatWas() {
    r.blank(8, 8);
    rows("09090909", "09090909", "09090909");
    // round a column of 9 are 3 of 9, round one of 0 are 6; at the sides as many of both, or more of 0
    due("smooth", r.smooth(), 7 + 7 + 4);
    rowIs(0, "00909090");
    rowIs(1, "00909090");
    rowIs(2, "00000000");
  }

  // ---- drawers

  @Says(promise = 19, words = "THE SCAN (W, H, DOTS) is kept in a DRAWER 0 to 2: true; false: no such one")
  static void drawersFrom0To2() {
    for (int i : new int[] {-1, 3, 4, -3}) due("keep(" + i + ")", r.keep(i), false);
    for (int far : FAR) due("keep(" + far + ")", r.keep(far), false);
    for (int i = 0; i < 3; i++) {
      plain(8 + i, 20 - i, i + 1);
      due("keep(" + i + ")", r.keep(i), true);
    }
    r.blank(40, 40);
    for (int i = 2; i >= 0; i--) {
      due("back(" + i + ")", r.back(i), true);
      due("W", r.count(0), 8 + i);
      due("H", r.count(1), 20 - i);
      due("dots", r.count(10), (8L + i) * (20 - i) * (i + 1));
    }
    plain(9, 9, 7);
    due("over what was kept", r.keep(1), true);
    r.blank(8, 8);
    due("back(1)", r.back(1), true);
    due("dots", r.count(10), 81 * 7);
  }

  @Says(promise = 20, words = {"THE SCAN is as it was kept: true; false: no such DRAWER", "nothing was"})
  static void drawersWithNothing() {
    plain(9, 8, 6);
    for (int i = 0; i < 3; i++) due("back(" + i + ")", r.back(i), false);
    due("keep(1)", r.keep(1), true);
    for (int i : new int[] {-1, 3, 0, 2, -2}) due("back(" + i + ")", r.back(i), false);
    for (int far : FAR) due("back(" + far + ")", r.back(far), false);
    due("all stays", r.count(10), 72 * 6);
    due("W", r.count(0), 9);
    r.fill(0, 0, 9, 8, 0);
    due("back(1)", r.back(1), true);
    due("as it was", r.count(10), 72 * 6);
    r.fill(0, 0, 1, 1, 0);
    due("back(1) again", r.back(1), true);
    due("what is kept did not change", r.count(10), 72 * 6);
    r.blank(8, 8);
    due("an empty scan is kept, too", r.keep(0), true);
    r.back(1);
    due("back(0)", r.back(0), true);
    due("all 0", r.count(10), 0);
    due("W", r.count(0), 8);
  }

  // ---- the best level

  @Says(words = "is greatest (0 if one of both is 0), of like ones the least")
  static void levelsOfLikeOnes() {
    int[][] alike = {{0, 1}, {1, 1}, {5, 1}, {9, 1}};
    for (int[] o : alike) {
      plain(40, 40, o[0]);
      due("all " + o[0], r.level(), o[1]);
    }
    // dots of two kinds: each level above the lesser one parts them alike
    int[][] two = {{0, 9, 1}, {0, 1, 1}, {8, 9, 9}, {3, 9, 4}, {1, 2, 2}, {7, 8, 8}};
    for (int[] o : two) {
      plain(40, 40, o[0]);
      r.fill(0, 0, 20, 40, o[1]);
      due("half " + o[0] + ", half " + o[1], r.level(), o[2]);
      plain(40, 40, o[0]);
      r.fill(39, 39, 1, 1, o[1]);
      due("one of " + o[1], r.level(), o[2]);
      plain(40, 40, o[1]);
      r.fill(0, 0, 1, 1, o[0]);
      due("all but one of " + o[1], r.level(), o[2]);
    }
  }

  @Says(words = "BEST LEVEL: of 1 to 9 that by which DOTS below and DOTS not below are parted best")
  static void levelsFrom1To9() {
    // two kinds beside each other, each level once
    for (int v = 1; v <= 9; v++) {
      plain(8, 8, v);
      r.fill(0, 0, 8, 4, v - 1);
      due("between " + (v - 1) + " and " + v, r.level(), v);
    }
    // all kinds: ten of each of 0 to 9 on 10 by 10 are parted in the middle
    r.blank(10, 10);
    for (int y = 0; y < 10; y++) r.fill(0, y, 10, 1, y);
    due("of 0 to 9 as many", r.level(), 5);
  }

  @Says(promise = 44, words = "BEST LEVEL")
  static void bestLevels() {
    r.blank(8, 8);
    due("all 0", r.level(), 1);
    r.fill(0, 0, 8, 4, 2);
    r.fill(0, 4, 8, 4, 7);
    r.fill(0, 0, 1, 1, 4);
    r.fill(0, 7, 1, 1, 5);
    due("2 to 4 and 5 to 7", r.level(), 5);
    // a long tail: 57 of 1, 2 to 8 once each: by 2 1596 squared by 57 times 7, by 4 1460 squared by 59 times 5
    r.fill(0, 0, 8, 8, 1);
    row(0, "12345678");
    due("a long tail", r.level(), 4);
    r.fill(0, 0, 8, 4, 2);
    r.fill(0, 4, 8, 4, 7);
    r.fill(0, 0, 1, 1, 4);
    r.fill(0, 7, 1, 1, 5);
    // by the level that is set nothing changes
    r.set(0, 9);
    due("by LEVEL 9", r.level(), 5);
    due("LEVEL stays", r.set(0, 9), 9);
    // 38 of 0, 3 of 1, 39 of 2: by 1 3078 squared by 38 times 42, by 2 3081 squared by 41 times 39: 5936.1, 5936.6
    r.blank(10, 8);
    r.fill(0, 0, 10, 4, 2);
    r.fill(9, 3, 1, 1, 1);
    r.fill(0, 4, 2, 1, 1);
    due("greater by less than 1", r.level(), 2);
    // mirrored: 39 of 0, 3 of 1, 38 of 2: by 1 it is greater
    r.fill(0, 0, 1, 1, 0);
    due("less by less than 1", r.level(), 1);
    // the squares are near 2^49, and cross-multiplied beyond 2^63: 800 of 0, 400 of 8, 400 of 9; then 800 of 1
    plain(40, 40, 0);
    r.fill(0, 0, 40, 10, 8);
    r.fill(0, 10, 40, 10, 9);
    due("large squares", r.level(), 1);
    r.fill(0, 20, 40, 20, 1);
    due("large squares", r.level(), 2);
  }
}
