/** Ink, marks, the map, what is judged: for each sentence of the document that names a boundary, a test. */
public final class FoundEdges extends Sentences {
  private static final String NO_QUESTION = "size 17 17; box 2 2;";
  /** Boxes of 36 dots: (2, 2) lies on the dots from (6, 6), (9, 9) on those from (13, 13). */
  private static final String LARGE = "size 17 17; box 6 6; one 2 2, 9 9;";

  public static void main(String[] args) throws Exception {
    runAll(FoundEdges.class);
  }

  /** Four marks of one dot each, in a scan of 24 by 24. */
  private static void fourDots(int... xy) {
    r.blank(24, 24);
    r.set(1, 1);
    r.set(2, 1);
    for (int i = 0; i < 8; i += 2) r.fill(xy[i], xy[i + 1], 1, 1, 9);
    for (int k = 0; k < 4; k++) {
      int b = r.mark(k);
      due("mark " + k + " has x", r.blob(b, 3), xy[2 * k]);
      due("mark " + k + " has y", r.blob(b, 4), xy[2 * k + 1]);
    }
    due("marked", r.marked(), 1);
  }

  /** Makes a box of 36 dots so dark in all. */
  private static void inkLarge(int x, int y, int sum) {
    for (int i = 0; i < 36; i++) r.fill(4 + x + i % 6, 4 + y + i / 6, 1, 1, sum / 36 + (i < sum % 36 ? 1 : 0));
  }

  private static void judgedIs(int q, int answer, int state, int rubbed, int step, int points) {
    int[] want = {answer, state, rubbed, step, points};
    for (int what = 0; what < 5; what++) due("judged(" + q + ", " + what + ")", r.judged(q, what), want[what]);
  }

  // ---- ink, blobs

  @Says(words = "INK: DOTS of DARKNESS LEVEL and more")
  static void inkFromLevelOn() {
    r.blank(10, 8);
    r.set(1, 1);
    row(0, "1020304050");
    row(2, "6070809000");
    for (int level = 1; level <= 9; level++) {
      r.set(0, level);
      due("blobs by " + level, r.blob(-1, 0), 10 - level);
      due("ink by " + level, r.count(9), 10 - level);
    }
    r.set(0, 1);
    due("0 is never ink: the first", r.blob(0, 3), 0);
    due("the second", r.blob(1, 3), 2);
  }

  @Says(words = "A BLOB: DOTS of INK that hang together (beside, above, below each other)")
  static void blobsHangBesideAboveBelow() {
    r.blank(8, 8);
    r.set(1, 1);
    rows("50000000", "05000000", "00500000");
    due("by slants they do not", r.blob(-1, 0), 3);
    rows("00000005", "50000000", "00000000");
    due("over the sides they do not", r.blob(-1, 0), 2);
    rows("50000000", "00000000", "00000000");
    row(7, "00000005");
    due("from the last row to the first they do not", r.blob(-1, 0), 2);
    row(7, "00000000");
    rows("00000005", "55555505", "50000505", "50550505", "50500505", "50555505", "50000005", "55555555");
    due("a long way round is one", r.blob(-1, 0), 1);
    due("its size", r.blob(0, 0), r.count(9));
  }

  @Says(words = {"SIZE: how many", "BLOBS of SIZE below SPECK are none"})
  static void blobsFromSpeckOn() {
    r.blank(40, 8);
    r.fill(0, 0, 19, 1, 5);
    r.fill(20, 0, 20, 1, 5);
    r.fill(0, 2, 1, 1, 5);
    r.fill(0, 4, 1, 2, 5);
    int[][] want = {{1, 4}, {2, 3}, {3, 2}, {19, 2}, {20, 1}};
    for (int[] o : want) {
      r.set(1, o[0]);
      due("blobs by SPECK " + o[0], r.blob(-1, 0), o[1]);
    }
    due("the one left", r.blob(0, 0), 20);
    due("its x", r.blob(0, 3), 20);
  }

  @Says(words = "Numbered by their first DOT, row by row")
  static void blobsNumberedByTheirFirstDot() {
    r.blank(10, 8);
    rows("0000000990", "0550000900", "5500000000", "0000066660");
    due("blobs", r.blob(-1, 0), 3);
    int[][] want = {{3, 22, 1, 7, 0, 2, 2}, {4, 4, 6, 1, 1, 3, 2}, {4, 26, 12, 5, 3, 4, 1}};
    for (int b = 0; b < 3; b++) {
      for (int what = 0; what < 7; what++) due("blob(" + b + ", " + what + ")", r.blob(b, what), want[b][what]);
    }
    // the second blob grows up into the first row, ahead of the other: then it is the first
    r.fill(2, 0, 1, 1, 5);
    due("x of the first one's first dot", r.blob(0, 3), 2);
    due("x of the second one's", r.blob(1, 3), 7);
  }

  @Says(promise = 21, words = "BLOBS: how many (b NONE, what 0)")
  static void howManyBlobs() {
    due("none", r.blob(-1, 0), 0);
    r.blank(40, 40);
    r.set(1, 1);
    for (int y = 0; y < 40; y++) row(y, (y % 2 == 0 ? "50" : "05").repeat(20));
    due("the most", r.blob(-1, 0), 800);
    due("the last one's x", r.blob(799, 3), 39);
    due("the last one's y", r.blob(799, 4), 39);
    due("no more", r.blob(800, 0), -1);
    r.set(1, 2);
    due("all are specks", r.blob(-1, 0), 0);
    due("not one", r.blob(0, 0), -1);
    r.fill(0, 0, 40, 40, 9);
    due("one of all", r.blob(-1, 0), 1);
    int[] want = {1600, 40 * 780, 40 * 780, 0, 0, 40, 40};
    for (int what = 0; what < 7; what++) due("blob(0, " + what + ")", r.blob(0, what), want[what]);
  }

  @Says(promise = 21, words = {"3, 4 x, y of its first DOT, 5 how wide (from its least x to its greatest, both counted), 6 how high", "NONE: no such ones"})
  static void noSuchBlob() {
    r.blank(8, 8);
    r.set(1, 1);
    r.fill(7, 7, 1, 1, 9);
    int[] want = {1, 7, 7, 7, 7, 1, 1};
    for (int what = 0; what < 7; what++) due("of one dot, blob(0, " + what + ")", r.blob(0, what), want[what]);
    int[][] none = {{1, 0}, {-2, 0}, {0, 7}, {0, -1}, {-1, 1}, {-1, 6}, {-1, -1}, {-1, 7}, {1, 7}};
    for (int[] o : none) due("blob(" + o[0] + ", " + o[1] + ")", r.blob(o[0], o[1]), -1);
    for (int far : FAR) {
      due("blob(" + far + ", 0)", r.blob(far, 0), -1);
      due("blob(0, " + far + ")", r.blob(0, far), -1);
      due("blob(-1, " + far + ")", r.blob(-1, far), -1);
    }
    // the first dot is not the leftmost one, and the least x lies below it
    rows("00009000", "00009900", "09999000");
    int[] wide = {7, 4 + 4 + 5 + 1 + 2 + 3 + 4, 0 + 2 + 8, 4, 0, 5, 3};
    for (int what = 0; what < 7; what++) due("blob(0, " + what + ")", r.blob(0, what), wide[what]);
  }

  // ---- marks

  @Says(words = "the BLOB of SIZE MARK and more whose MIDDLE is nearest to that corner")
  static void marksFromMarkOn() {
    r.fill(0, 0, 5, 1, 9);
    r.fill(8, 8, 6, 1, 9);
    due("one of 5 is too small", r.mark(0), 1);
    r.set(2, 5);
    due("by 5 it is not", r.mark(0), 0);
    r.blank(24, 24);
    r.fill(0, 0, 10, 6, 9);
    r.fill(0, 0, 1, 1, 0);
    r.set(2, 60);
    due("59", r.mark(3), -2);
    r.fill(0, 0, 1, 1, 9);
    due("60", r.mark(3), 0);
    r.set(2, 1);
    r.fill(23, 23, 1, 1, 9);
    due("a speck is no blob", r.mark(3), 0);
    r.set(1, 1);
    due("one dot", r.mark(3), 1);
  }

  @Says(words = "whose MIDDLE is nearest to that corner; of like ones the lowest")
  static void marksAsNearAreTheLowest() {
    r.blank(24, 24);
    r.set(1, 1);
    r.set(2, 1);
    // each pair is as far from one corner: (0, 0), (23, 0), (0, 23), (23, 23)
    int[][] pairs = {{0, 5, 0, 4, 3}, {1, 18, 0, 19, 3}, {2, 4, 20, 0, 18}, {3, 19, 20, 23, 18}};
    for (int[] o : pairs) {
      r.blank(24, 24);
      r.fill(o[1], o[2], 1, 1, 9);
      r.fill(o[3], o[4], 1, 1, 9);
      due("the lowest for " + o[0], r.mark(o[0]), 0);
      due("there are two", r.blob(-1, 0), 2);
    }
    r.blank(24, 24);
    r.fill(4, 0, 1, 2, 9);
    r.fill(5, 0, 1, 1, 9);
    r.fill(0, 4, 1, 1, 9);
    r.fill(0, 5, 2, 1, 9);
    // the middles are (13/3, 1/3) and (1/3, 14/3)
    due("by thirds", r.mark(0), 0);
    r.fill(0, 3, 1, 1, 9);
    // the second one's is (1/4, 17/4) now: 290 / 16 is less than 170 / 9
    due("by fractions of unlike sizes", r.mark(0), 1);
  }

  @Says(words = "MARKS 0 to 3 (of the corners upper left, upper right, lower left, lower right: DOTS (0, 0), (W - 1, 0), (0, H - 1), (W - 1, H - 1))")
  static void marksOfTheFourCorners() {
    int[][] sizes = {{24, 24}, {8, 40}, {40, 8}};
    for (int[] s : sizes) {
      int w = s[0];
      int h = s[1];
      r.blank(w, h);
      // of each corner's two the one at the corner itself; the other one is one further
      r.set(1, 1);
      r.set(2, 1);
      int[][] corners = {{0, 0}, {w - 1, 0}, {0, h - 1}, {w - 1, h - 1}};
      for (int[] c : corners) r.fill(c[0] == 0 ? 2 : w - 3, c[1], 1, 1, 9);
      for (int[] c : corners) r.fill(c[0], c[1], 1, 1, 9);
      due("blobs", r.blob(-1, 0), 8);
      int[] want = {0, 3, 4, 7};
      for (int k = 0; k < 4; k++) due("mark(" + k + ") of " + w + " by " + h, r.mark(k), want[k]);
      for (int[] c : corners) r.fill(c[0], c[1], 1, 1, 0);
      for (int k = 0; k < 4; k++) due("the others: mark(" + k + ")", r.mark(k), k);
    }
  }

  @Says(words = "MARKED is THE SCAN if there are all, each another BLOB")
  static void markedByFourOthers() {
    due("nothing", r.marked(), 0);
    r.fill(2, 2, 3, 3, 9);
    due("one", r.marked(), 0);
    r.fill(19, 2, 3, 3, 9);
    due("two", r.marked(), 0);
    r.fill(2, 19, 3, 3, 9);
    due("three: all are there, one is two", r.marked(), 0);
    for (int k = 0; k < 4; k++) due("mark(" + k + ")", r.mark(k) >= 0, true);
    r.fill(19, 19, 3, 3, 9);
    due("four", r.marked(), 1);
    r.fill(12, 12, 3, 3, 9);
    due("a fifth does not matter", r.marked(), 1);
    r.fill(12, 12, 3, 3, 0);
    r.set(2, 9);
    due("MARK 9", r.marked(), 1);
    r.set(2, 10);
    due("MARK 10", r.marked(), 0);
    r.set(2, 9);
    r.set(0, 9);
    due("LEVEL 9", r.marked(), 1);
    r.fill(2, 2, 1, 1, 8);
    due("one dot of 8", r.marked(), 0);
    r.fill(2, 2, 3, 3, 9);
    r.fill(5, 3, 14, 1, 9);
    due("two hang together", r.marked(), 0);
  }

  @Says(promise = 22, words = {"-2: there is none (no BLOB of SIZE MARK)", "NONE: no such k"})
  static void noSuchMark() {
    for (int k = 0; k < 4; k++) due("mark(" + k + ")", r.mark(k), -2);
    for (int k : new int[] {-1, 4, -2, 5}) due("NONE first: mark(" + k + ")", r.mark(k), -1);
    for (int far : FAR) due("mark(" + far + ")", r.mark(far), -1);
    r.fill(0, 0, 5, 1, 9);
    for (int k = 0; k < 4; k++) due("there is a blob of 5: mark(" + k + ")", r.mark(k), -2);
    r.fill(5, 0, 1, 1, 9);
    for (int k = 0; k < 4; k++) due("one of 6: mark(" + k + ")", r.mark(k), 0);
    due("not marked, still", r.marked(), 0);
  }

  @Says(promise = 23, words = "Whether THE SCAN is MARKED: 1, 0")
  static void markedInScansOfAllSizes() {
    int[][] sizes = {{8, 8}, {8, 40}, {40, 8}, {40, 40}};
    for (int[] s : sizes) {
      r.blank(s[0], s[1]);
      due("none", r.marked(), 0);
      r.fill(0, 0, 3, 2, 5);
      r.fill(s[0] - 3, 0, 3, 2, 5);
      r.fill(0, s[1] - 2, 3, 2, 5);
      due("three", r.marked(), 0);
      r.fill(s[0] - 3, s[1] - 2, 3, 2, 5);
      due("four", r.marked(), 1);
      r.fill(s[0] - 1, s[1] - 1, 1, 1, 4);
      due("one dot less", r.marked(), 0);
    }
  }

  // ---- the shape

  @Says(promise = 24, words = {"-2: not MARKED", "NONE: no such what"})
  static void noSuchShape() {
    for (int what = 0; what < 3; what++) due("shape(" + what + ")", r.shape(what), -2);
    for (int what : new int[] {-1, 3, -2, 4}) due("NONE first: shape(" + what + ")", r.shape(what), -1);
    for (int far : FAR) due("shape(" + far + ")", r.shape(far), -1);
    fourDots(1, 1, 20, 1, 1, 20, 20, 20);
    for (int what : new int[] {-1, 3}) due("shape(" + what + ")", r.shape(what), -1);
    due("without a form, too", r.shape(0), 1);
  }

  @Says(promise = 24, words = "one turns the same way at each (nowhere goes straight on, or back), else 0")
  static void turnsTheSameWay() {
    fourDots(1, 1, 21, 1, 1, 21, 12, 11);
    due("just turning at 3", r.shape(0), 1);
    fourDots(1, 1, 21, 1, 2, 21, 3, 20);
    due("turning at 3 by the least", r.shape(0), 1);
    fourDots(1, 1, 21, 1, 1, 21, 11, 11);
    due("straight on at 3", r.shape(0), 0);
    fourDots(1, 1, 21, 1, 1, 21, 10, 11);
    due("the other way at 3", r.shape(0), 0);
    fourDots(5, 9, 7, 11, 1, 14, 18, 22);
    due("straight on at 1", r.shape(0), 0);
    fourDots(3, 12, 21, 3, 2, 21, 13, 7);
    due("back at 1", r.shape(0), 0);
    fourDots(5, 0, 8, 9, 11, 18, 12, 21);
    due("all in one line", r.shape(0), 0);
    fourDots(12, 16, 19, 11, 3, 20, 17, 12);
    due("to the left at each", r.shape(0), 1);
    fourDots(17, 9, 21, 1, 7, 21, 9, 19);
    due("lines that cross", r.shape(0), 0);
  }

  @Says(promise = 24, words = "1 the area within these four lines, cut (half of the sum, for each line, of x of its first end times y of its second, less x of its second times y of its first, without sign)")
  static void areasCutAndWithoutSign() {
    fourDots(1, 1, 20, 1, 1, 20, 20, 20);
    due("19 by 19", r.shape(1), 361);
    fourDots(1, 1, 20, 2, 1, 20, 20, 20);
    due("351.5", r.shape(1), 351);
    fourDots(3, 12, 21, 3, 2, 21, 13, 7);
    due("a half of 85", r.shape(1), 42);
    fourDots(12, 16, 19, 11, 3, 20, 17, 12);
    due("a half of -19", r.shape(1), 9);
    fourDots(17, 9, 21, 1, 7, 21, 9, 19);
    due("a half of -20", r.shape(1), 10);
    fourDots(20, 9, 23, 1, 11, 22, 16, 16);
    due("of 0", r.shape(1), 0);
    fourDots(12, 16, 21, 11, 4, 22, 15, 14);
    due("a half of -1", r.shape(1), 0);
    fourDots(0, 0, 23, 0, 0, 23, 23, 23);
    due("the whole", r.shape(1), 529);
    // of 2, 3, 4, 5 dots: the middles 0 (3/2, 0), 1 (21, 0), 2 (3/2, 21), 3 (20, 21)
    r.blank(24, 24);
    r.fill(1, 0, 2, 1, 9);
    r.fill(20, 0, 3, 1, 9);
    r.fill(0, 21, 4, 1, 9);
    r.fill(18, 21, 5, 1, 9);
    due("middles of unlike sizes", r.shape(1), 399);
    // 3 is (20, 127/6) then: the sum is 444.5 + 388.25 - 31.5
    r.fill(20, 22, 1, 1, 9);
    due("400.625", r.shape(1), 400);
  }

  @Says(promise = 24, words = "2: 0 if 0 and 1 are as low, 1 if 1 is lower (its y greater), 2 if it is higher")
  static void asLowOrLower() {
    fourDots(1, 5, 20, 5, 1, 20, 20, 20);
    due("as low", r.shape(2), 0);
    fourDots(1, 5, 20, 6, 1, 20, 20, 20);
    due("1 is lower", r.shape(2), 1);
    fourDots(1, 5, 20, 4, 1, 20, 20, 20);
    due("1 is higher", r.shape(2), 2);
    // by fractions: 1 is (20, 5), then (61/3, 16/3); 0 is (1, 5), then (4/3, 16/3), then (5/4, 11/2)
    fourDots(1, 5, 20, 5, 1, 20, 20, 20);
    r.fill(21, 5, 1, 1, 9);
    due("as low, of unlike sizes", r.shape(2), 0);
    r.fill(2, 5, 1, 1, 9);
    r.fill(3, 5, 1, 1, 9);
    due("as low, of 3 and 2", r.shape(2), 0);
    fourDots(1, 5, 20, 5, 1, 20, 20, 20);
    r.fill(20, 6, 1, 1, 9);
    r.fill(21, 5, 1, 1, 9);
    due("lower by a third", r.shape(2), 1);
    r.fill(1, 6, 1, 1, 9);
    r.fill(2, 5, 1, 1, 9);
    due("both by a third", r.shape(2), 0);
    r.fill(2, 6, 1, 1, 9);
    due("0 by a half", r.shape(2), 2);
    r.fill(21, 6, 1, 1, 9);
    due("both by a half", r.shape(2), 0);
  }

  // ---- the map

  @Says(words = "both rounded to the nearest whole number (halves up)")
  static void halvesGoUp() {
    fourDots(0, 0, 10, 0, 0, 9, 10, 9);
    form("size 10 9;box 1 1;");
    for (int i = 0; i <= 20; i++) due("x of " + i, r.map(i, 0, 0), (i + 1) / 2);
    for (int j = 0; j <= 18; j++) due("y of " + j, r.map(0, j, 1), (j + 1) / 2);
    // thirds and sixths: the point i / 2 of 15 lies at i / 3
    form("size 15 27;box 1 1;");
    for (int i = 0; i <= 30; i++) due("x of " + i, r.map(i, 0, 0), i / 3 + (i % 3 == 2 ? 1 : 0));
    for (int j = 0; j <= 54; j++) due("y of " + j, r.map(0, j, 1), j / 6 + (j % 6 >= 3 ? 1 : 0));
  }

  @Says(words = {"a point (p, q) of THE FORM (p 0 to U, q 0 to V, halves, too)", "DOTS outside THE SCAN count 0"})
  static void pointsBetweenTheMiddles() {
    // the middles lie in the scan, so all points between them do: even with marks on its very corners
    int[][] sizes = {{24, 24}, {8, 40}, {40, 8}};
    for (int[] s : sizes) {
      r = new SheetReader();
      int w = s[0];
      int h = s[1];
      r.blank(w, h);
      r.set(1, 1);
      r.set(2, 1);
      for (int k = 0; k < 4; k++) r.fill(k % 2 * (w - 1), k / 2 * (h - 1), 1, 1, 9);
      form("size 4 40;box 1 1;one 0 0,3 0,0 39,3 39;");
      for (int i = 0; i <= 8; i++) due("x of " + i, r.map(i, 80, 0), (2 * (w - 1) * i + 8) / 16);
      for (int j = 0; j <= 80; j++) due("y of " + j, r.map(8, j, 1), (2 * (h - 1) * j + 80) / 160);
      for (int b = 0; b < 4; b++) {
        int x = r.map(b % 2 * 6 + 1, b / 2 * 78 + 1, 0);
        int y = r.map(b % 2 * 6 + 1, b / 2 * 78 + 1, 1);
        due("dark(0, " + b + ")", r.dark(0, b), r.dot(x, y));
      }
    }
  }

  @Says(promise = 25, words = "2, 3 x, y in hundredths, cut")
  static void hundredthsAreCut() {
    fourDots(0, 0, 10, 0, 0, 9, 10, 9);
    form("size 15 27;box 1 1;");
    int[] x = {0, 33, 66, 100, 133, 166, 200};
    int[] y = {0, 16, 33, 50, 66, 83, 100};
    for (int i = 0; i < 7; i++) {
      due("x of " + i, r.map(i, 0, 2), x[i]);
      due("y of " + i, r.map(0, i, 3), y[i]);
    }
    due("the last x", r.map(30, 54, 2), 1000);
    due("the last y", r.map(30, 54, 3), 900);
    due("the last but one x", r.map(29, 54, 2), 966);
    due("the last but one y", r.map(30, 53, 3), 883);
  }

  @Says(promise = 25, words = {"(i 0 to 2 U, j 0 to 2 V)", "-2: not MARKED", "NONE: no such ones", "no FORM"})
  static void noSuchPoints() {
    due("no form", r.map(0, 0, 0), -1);
    form("size 4 40;box 1 1;");
    for (int what = 0; what < 4; what++) due("not marked", r.map(0, 0, what), -2);
    due("NONE first", r.map(9, 0, 0), -1);
    due("NONE first", r.map(0, 0, 4), -1);
    fourDots(0, 0, 23, 0, 0, 23, 23, 23);
    int[][] ends = {{0, 0, 0, 0}, {8, 80, 0, 23}, {8, 80, 1, 23}, {8, 0, 0, 23}, {8, 0, 1, 0}, {0, 80, 0, 0}, {0, 80, 1, 23}, {8, 80, 2, 2300}, {8, 80, 3, 2300}};
    for (int[] o : ends) due("map(" + o[0] + ", " + o[1] + ", " + o[2] + ")", r.map(o[0], o[1], o[2]), o[3]);
    int[][] none = {{-1, 0, 0}, {9, 0, 0}, {0, -1, 0}, {0, 81, 0}, {0, 0, -1}, {0, 0, 4}, {80, 8, 0}, {9, 81, 4}};
    for (int[] o : none) due("map(" + o[0] + ", " + o[1] + ", " + o[2] + ")", r.map(o[0], o[1], o[2]), -1);
    for (int far : FAR) due("by " + far, r.map(far, 0, 0) + r.map(0, far, 0) + r.map(0, 0, far), -3);
  }

  @Says(words = "of 0 times (U - p) (V - q), of 1 times p (V - q), of 2 times (U - p) q, of 3 times p q, by U V: x, y as fractions")
  static void mapByLargeFractions() {
    // four blobs that fill nearly all of the largest scan: the product of their sizes is nearly the largest
    r.blank(40, 40);
    r.fill(0, 0, 40, 40, 9);
    r.fill(19, 0, 1, 40, 0);
    r.fill(0, 20, 40, 1, 0);
    due("blobs", r.blob(-1, 0), 4);
    form("size 40 40;box 1 1;one 39 39;");
    due("marked", r.marked(), 1);
    // middles x 9 and 29.5, y 9.5 and 30
    due("x of the first", r.map(0, 0, 2), 900);
    due("y of the first", r.map(0, 0, 3), 950);
    due("x of the last", r.map(80, 80, 2), 2950);
    due("y of the last", r.map(80, 80, 3), 3000);
    due("its dot", r.map(80, 80, 0), 30);
    // 9 + 20.5 * 79 / 80 = 29.24375
    due("x", r.map(79, 79, 2), 2924);
    due("y", r.map(79, 79, 3), 2974);
    due("x of 9", r.map(0, 80, 0), 9);
    due("area", r.shape(1), 420);
  }

  // ---- how dark

  @Says(words = "DARK of a BOX: the sum of DARKNESS of the DOTS of the middles of its UNITS")
  static void boxesAtTheSidesOfTheScan() {
    // marks on the very corners: the first and the last unit lie on them; (1/2) 23 / 40 is 0.2875
    fourDots(0, 0, 23, 0, 0, 23, 23, 23);
    form("size 40 40;box 1 1;one 0 0, 39 39, 39 0, 0 39, 1 1;");
    for (int b = 0; b < 4; b++) due("dark(0, " + b + ")", r.dark(0, b), 9);
    // (3/2) 23 / 40 is 0.8625
    due("dark(0, 4)", r.dark(0, 4), 0);
    r.fill(1, 1, 1, 1, 7);
    due("dark(0, 4)", r.dark(0, 4), 7);
    // 36 units on few dots: each unit counts; of each side unit 0 lies on 0, 1 and 2 on 1, 3 on 2, 4 and 5 on 3
    form("size 40 40;box 6 6;one 0 0, 20 20;");
    due("the corner once, (1, 1) by 2 times 2 units", r.dark(0, 0), 9 + 4 * 7);
  }

  @Says(words = "DARK of a BOX: the sum of DARKNESS of the DOTS of the middles of its UNITS (UNIT (i, j): the point (i + 1/2, j + 1/2))")
  static void boxesBetweenMarksAskew() {
    int[][] corners = {{2, 1}, {21, 4}, {1, 19}, {19, 22}};
    int[][] dots = new int[24][24];
    for (int n = 0; n < 576; n++) dots[n / 24][n % 24] = (2 * (n % 24) + 3 * (n / 24) + n % 24 * (n / 24)) % 5;
    for (int[] c : corners) dots[c[1]][c[0]] = 9;
    r.set(1, 1);
    r.set(2, 1);
    for (int y = 0; y < 24; y++) {
      StringBuilder digits = new StringBuilder();
      for (int d : dots[y]) digits.append(d);
      due("row(" + y + ")", row(y, digits.toString()), true);
    }
    due("marked", r.marked(), 1);
    int[][] places = {{0, 0}, {4, 7}, {3, 3}, {0, 7}, {4, 0}};
    form("size 7 9;box 3 2;one 0 0,4 7,3 3,0 7,4 0;");
    for (int b = 0; b < 5; b++) {
      int sum = 0;
      for (int n = 0; n < 6; n++) {
        int i = 2 * (places[b][0] + n % 3) + 1;
        int j = 2 * (places[b][1] + n / 3) + 1;
        sum += dots[between(corners, 7, 9, i, j, 1)][between(corners, 7, 9, i, j, 0)];
      }
      due("dark(0, " + b + ")", r.dark(0, b), sum);
    }
  }

  @Says(words = "PAPER: the least DARK of all BOXES")
  static void paperIsTheLeastOfAllBoxes() {
    printed(PLAIN);
    int[][] all = {{2, 2, 9}, {6, 2, 8}, {10, 2, 7}, {2, 8, 6}, {6, 8, 5}, {10, 8, 4}};
    for (int[] o : all) ink(o[0], o[1], o[2]);
    due("the last box", r.dark(0, -1), 4);
    ink(10, 8, 36);
    due("the last but one", r.dark(0, -1), 5);
    due("by the other question", r.dark(1, -1), 5);
    ink(2, 2, 0);
    due("the first", r.dark(1, -1), 0);
    printed("size 17 17; box 2 2; one 2 2;");
    ink(2, 2, 36);
    due("of one box it is the box", r.dark(0, -1), 36);
    judgedIs(0, 0, 0, 0, 0, 0);
  }

  @Says(promise = 26, words = {"DARK of BOX b of a QUESTION (b NONE: PAPER, of all BOXES, by any QUESTION there is)", "-2: not MARKED", "NONE: no such ones"})
  static void noSuchDark() {
    due("no form", r.dark(0, 0), -1);
    due("no form", r.dark(0, -1), -1);
    printed(PLAIN);
    ink(10, 8, 36);
    due("the last box", r.dark(1, 2), 36);
    int[][] none = {{0, 3}, {0, -2}, {1, 3}, {2, 0}, {2, -1}, {-1, 0}, {-1, -1}};
    for (int[] o : none) due("dark(" + o[0] + ", " + o[1] + ")", r.dark(o[0], o[1]), -1);
    for (int far : FAR) due("by " + far, r.dark(far, 0) + r.dark(0, far) + r.dark(far, -1), -3);
    unmark();
    due("not marked", r.dark(0, 0), -2);
    due("paper, not marked", r.dark(1, -1), -2);
    for (int[] o : none) due("NONE first: dark(" + o[0] + ", " + o[1] + ")", r.dark(o[0], o[1]), -1);
    printed(NO_QUESTION);
    due("no question, no paper", r.dark(0, -1), -1);
  }

  // ---- judged

  @Says(words = "If that is MARGIN at least, all ahead of it are TICKED")
  static void aStepOfMargin() {
    printed("size 17 17; box 2 2; many 2 2, 6 2, 10 2; one 2 8;");
    ink(2, 2, 6);
    judgedIs(0, 1, 0, 0, 6, 0);
    ink(6, 2, 12);
    ink(10, 2, 18);
    r.set(3, 7);
    due("of 7 there is none", r.judged(0, 0), 0);
    r.set(3, 6);
    due("of 6 the first of like ones", r.judged(0, 0), 4);
    ink(2, 2, 7);
    due("all three ahead", r.judged(0, 0), 7);
    r.set(3, 1);
    ink(2, 2, 0);
    ink(6, 2, 0);
    ink(10, 2, 1);
    due("a step of 1", r.judged(0, 0), 4);
    ink(10, 2, 0);
    judgedIs(0, 0, 0, 0, 0, 0);
    printed(LARGE);
    r.set(3, 200);
    inkLarge(2, 2, 200);
    judgedIs(0, 1, 0, 0, 200, 0);
    inkLarge(2, 2, 199);
    due("199", r.judged(0, 0), 0);
  }

  @Says(words = "if it is less, but twice of it is MARGIN at least, the QUESTION is DOUBTFUL, and none is; else none is")
  static void twiceAStepOfMargin() {
    printed(PLAIN);
    r.set(5, 200);
    int[] states = {0, 0, 0, 1, 1, 1, 0};
    for (int sum = 0; sum < 7; sum++) {
      ink(6, 2, sum);
      judgedIs(0, sum < 6 ? 0 : 2, states[sum], 0, sum, sum < 6 ? 0 : 1);
    }
    // an odd MARGIN: twice of it is not reached by a half, cut
    r.set(3, 7);
    ink(6, 2, 3);
    due("6 of 7", r.judged(0, 1), 0);
    ink(6, 2, 4);
    due("8 of 7", r.judged(0, 1), 1);
    r.set(3, 1);
    ink(6, 2, 0);
    due("0 of 1", r.judged(0, 1), 0);
    r.set(3, 2);
    ink(6, 2, 1);
    due("2 of 2", r.judged(0, 1), 1);
    r.set(3, 3);
    due("2 of 3", r.judged(0, 1), 0);
  }

  @Says(words = "the greatest STEP from one to the next (the last one's to PAPER), of like ones the first")
  static void likeStepsTheFirst() {
    printed("size 17 17; box 2 2; many 2 2, 6 2, 10 2; one 2 8;");
    ink(2, 2, 30);
    ink(6, 2, 20);
    ink(10, 2, 10);
    judgedIs(0, 1, 0, 6, 10, 0);
    ink(10, 2, 11);
    judgedIs(0, 7, 0, 0, 11, 0);
    ink(2, 8, 1);
    judgedIs(0, 1, 0, 6, 10, 0);
    ink(6, 2, 21);
    judgedIs(0, 3, 0, 4, 10, 0);
    ink(10, 2, 1);
    ink(6, 2, 15);
    judgedIs(0, 1, 0, 2, 15, 0);
    judgedIs(1, 0, 0, 0, 0, 0);
  }

  @Says(words = "if the first is by CLEAR at least more DARK than the second, it alone stays TICKED, the others are RUBBED OUT; else it is DOUBLE (all stay TICKED)")
  static void clearAtLeast() {
    printed("size 17 17; box 2 2; one 2 2, 6 2, 10 2 key b; many 2 8, 6 8;");
    ink(2, 2, 20);
    ink(6, 2, 24);
    judgedIs(0, 2, 0, 1, 20, 1);
    ink(6, 2, 23);
    judgedIs(0, 3, 2, 0, 20, 0);
    r.set(4, 3);
    judgedIs(0, 2, 0, 1, 20, 1);
    r.set(4, 0);
    ink(6, 2, 20);
    judgedIs(0, 1, 0, 2, 20, 0);
    r.set(4, 1);
    judgedIs(0, 3, 2, 0, 20, 0);
    ink(2, 2, 21);
    judgedIs(0, 1, 0, 2, 20, 0);
    // three: by the first and the second alone
    r.set(4, 4);
    ink(2, 2, 20);
    ink(6, 2, 24);
    ink(10, 2, 20);
    judgedIs(0, 2, 0, 5, 20, 1);
    ink(10, 2, 21);
    judgedIs(0, 7, 2, 0, 20, 0);
    // as RUBBED does not matter for them
    r.set(5, 200);
    ink(10, 2, 20);
    judgedIs(0, 2, 0, 5, 20, 1);
    printed(LARGE);
    form("size 17 17; box 6 6; one 2 2, 9 9; one 2 9;");
    inkLarge(2, 2, 324);
    inkLarge(9, 9, 163);
    r.set(4, 161);
    judgedIs(0, 1, 0, 2, 163, 0);
    r.set(4, 162);
    judgedIs(0, 3, 2, 0, 163, 0);
    r.set(4, 200);
    due("by 200", r.judged(0, 1), 2);
  }

  @Says(words = "BOXES of a QUESTION from the most DARK on (of like ones the first), then PAPER")
  static void likeBoxesTheFirst() {
    printed("size 17 17; box 2 2; one 2 2, 6 2, 10 2; one 2 8, 6 8, 10 8;");
    r.set(4, 0);
    // CLEAR 0: of all that are as dark the first one alone stays
    ink(6, 2, 20);
    ink(10, 2, 20);
    judgedIs(0, 2, 0, 4, 20, 0);
    ink(2, 2, 20);
    judgedIs(0, 1, 0, 6, 20, 0);
    ink(10, 2, 21);
    judgedIs(0, 4, 0, 3, 20, 0);
    // a box as dark as paper stands ahead of it
    judgedIs(1, 0, 0, 0, 0, 0);
    ink(10, 8, 6);
    judgedIs(1, 4, 0, 0, 6, 0);
  }

  @Says(words = "Of one with more than one TICKED")
  static void oneTickedIsNotDouble() {
    printed("size 17 17; box 2 2; one 2 2, 6 2; many 2 8, 6 8;");
    r.set(4, 200);
    ink(2, 2, 20);
    judgedIs(0, 1, 0, 0, 20, 0);
    ink(2, 8, 20);
    ink(6, 8, 20);
    judgedIs(1, 3, 0, 0, 20, 0);
    r.set(4, 0);
    judgedIs(1, 3, 0, 0, 20, 0);
  }

  @Says(words = "Other BOXES not TICKED (of any QUESTION, of a DOUBTFUL one, too) that are by RUBBED at least more DARK than PAPER are RUBBED OUT, too")
  static void rubbedAtLeast() {
    printed("size 17 17; box 2 2; many 2 2, 6 2, 10 2; one 2 8, 6 8;");
    ink(2, 2, 3);
    ink(6, 2, 2);
    ink(10, 2, 20);
    judgedIs(0, 4, 0, 1, 17, 0);
    r.set(5, 2);
    judgedIs(0, 4, 0, 3, 17, 0);
    r.set(5, 4);
    judgedIs(0, 4, 0, 0, 17, 0);
    r.set(5, 0);
    judgedIs(0, 4, 0, 3, 17, 0);
    judgedIs(1, 0, 0, 3, 0, 0);
    r.set(5, 1);
    judgedIs(1, 0, 0, 0, 0, 0);
    r.set(5, 3);
    ink(2, 8, 3);
    judgedIs(1, 0, 1, 1, 3, 0);
    ink(2, 8, 2);
    judgedIs(1, 0, 0, 0, 2, 0);
    // a double one's other box
    ink(2, 8, 20);
    ink(6, 8, 20);
    due("double", r.judged(1, 1), 2);
    due("nothing of it is rubbed out", r.judged(1, 2), 0);
    // by how much more than PAPER, not than 0
    ink(6, 8, 2);
    ink(2, 2, 4);
    judgedIs(0, 4, 0, 0, 16, 0);
    ink(2, 2, 5);
    judgedIs(0, 4, 0, 1, 15, 0);
    printed(LARGE);
    r.set(3, 200);
    r.set(5, 200);
    inkLarge(2, 2, 199);
    judgedIs(0, 0, 1, 0, 199, 0);
    inkLarge(9, 9, 100);
    inkLarge(2, 2, 300);
    judgedIs(0, 1, 0, 0, 200, 0);
    form("size 17 17; box 6 6; one 2 2, 9 9; one 2 9;");
    inkLarge(2, 2, 200);
    judgedIs(0, 0, 1, 1, 100, 0);
    inkLarge(2, 2, 199);
    judgedIs(0, 0, 1, 0, 100, 0);
  }

  @Says(words = "worth if it is neither DOUBTFUL nor DOUBLE and ANSWER is the key; less PENALTY if it is neither and ANSWER is neither the key nor none; else 0. Without a key 0")
  static void pointsOfAQuestion() {
    printed("size 17 17; box 2 2; one 2 2, 6 2, 10 2 key a b worth 99; one 2 8, 6 8; many 2 12, 6 12, 10 12 key b c worth 0;");
    r.set(6, 20);
    due("none", r.judged(0, 4), 0);
    ink(2, 2, 20);
    due("a part of the key", r.judged(0, 4), -20);
    ink(6, 2, 20);
    judgedIs(0, 3, 2, 0, 20, 0);
    ink(6, 2, 0);
    ink(2, 2, 5);
    due("doubtful", r.judged(0, 4), 0);
    ink(2, 8, 20);
    due("without a key", r.judged(1, 4), 0);
    ink(6, 12, 20);
    due("not all of the key", r.judged(2, 4), -20);
    ink(10, 12, 20);
    due("the key, worth 0", r.judged(2, 4), 0);
    ink(2, 12, 20);
    due("more than the key", r.judged(2, 4), -20);
    r.set(6, 0);
    due("PENALTY 0", r.judged(2, 4), 0);
    printed("size 17 17; box 2 2; one 2 2, 6 2 key a worth 99;");
    ink(2, 2, 20);
    due("worth 99", r.judged(0, 4), 99);
  }

  @Says(promise = 27, words = {"-1000: not MARKED", "Integer.MIN_VALUE: no such ones"})
  static void noSuchJudged() {
    due("no form", r.judged(0, 0), MIN);
    form(PLAIN);
    for (int what = 0; what < 5; what++) due("not marked: judged(1, " + what + ")", r.judged(1, what), -1000);
    int[][] none = {{2, 0}, {-1, 0}, {0, -1}, {0, 5}, {2, 5}, {-1, -1}};
    for (int[] o : none) due("first: judged(" + o[0] + ", " + o[1] + ")", r.judged(o[0], o[1]), MIN);
    r.print(9);
    for (int[] o : none) due("judged(" + o[0] + ", " + o[1] + ")", r.judged(o[0], o[1]), MIN);
    for (int far : FAR) {
      due("judged(" + far + ", 0)", r.judged(far, 0), MIN);
      due("judged(0, " + far + ")", r.judged(0, far), MIN);
    }
    judgedIs(1, 0, 0, 0, 0, 0);
  }

  @Says(promise = 28, words = {"3 with no BOX TICKED, neither DOUBTFUL nor DOUBLE", "-1000000: not MARKED", "Integer.MIN_VALUE: no FORM", "no such what"})
  static void noSuchSheet() {
    for (int what = -1; what <= 5; what++) due("no form: sheet(" + what + ")", r.sheet(what), MIN);
    form(PLAIN);
    for (int what = 0; what < 5; what++) due("not marked: sheet(" + what + ")", r.sheet(what), -1000000);
    for (int what : new int[] {-1, 5}) due("first: sheet(" + what + ")", r.sheet(what), MIN);
    r.print(9);
    int[] empty = {0, 0, 0, 2, 0};
    for (int what = 0; what < 5; what++) due("sheet(" + what + ")", r.sheet(what), empty[what]);
    for (int what : new int[] {-1, 5, -2, 6}) due("sheet(" + what + ")", r.sheet(what), MIN);
    for (int far : FAR) due("sheet(" + far + ")", r.sheet(far), MIN);
    // a doubtful one, rubbed out; one of many with a part of its key, another box rubbed out
    r.set(6, 20);
    ink(2, 2, 4);
    ink(6, 8, 3);
    ink(2, 8, 9);
    int[] both = {-20, 1, 0, 0, 2};
    for (int what = 0; what < 5; what++) due("sheet(" + what + ")", r.sheet(what), both[what]);
    ink(2, 2, 20);
    ink(6, 2, 20);
    due("double", r.sheet(2), 1);
    due("a double one is not empty", r.sheet(3), 0);
    printed(NO_QUESTION);
    for (int what = 0; what < 5; what++) due("no question: sheet(" + what + ")", r.sheet(what), 0);
  }

  @Says(promise = 28, words = "Of all QUESTIONS, what 0 POINTS, 1 DOUBTFUL ones, 2 DOUBLE ones")
  static void sheetsOfTwelveQuestions() {
    printed(questions(12, "one"));
    due("all are empty", r.sheet(3), 12);
    r.set(6, 20);
    for (int q = 0; q < 12; q++) r.tick(q, 2);
    r.print(9);
    due("all are wrong", r.sheet(0), -240);
    r.print(5);
    due("all are doubtful", r.sheet(1), 12);
    due("all are rubbed out", r.sheet(4), 12);
    for (int q = 0; q < 12; q++) r.tick(q, 3);
    r.print(9);
    due("all are double", r.sheet(2), 0);
    due("paper is as dark: none is ticked", r.sheet(3), 12);
    r.tick(11, 0);
    r.print(9);
    due("eleven are double", r.sheet(2), 11);
    due("one is empty", r.sheet(3), 1);
    for (int q = 0; q < 12; q++) r.tick(q, 1);
    r.print(9);
    due("all are right", r.sheet(0), 12);
  }

  // ---- ranks, steps among all, margins

  @Says(promise = 29, words = {"1 and how many BOXES of THE FORM are more DARK than BOX b of a QUESTION", "-2: not MARKED", "NONE: no such ones"})
  static void ranksAndNoSuchOnes() {
    due("no form", r.rank(0, 0), -1);
    printed(PLAIN);
    for (int q = 0; q < 2; q++) {
      for (int b = 0; b < 3; b++) due("all alike", r.rank(q, b), 1);
    }
    ink(10, 8, 1);
    due("the most dark", r.rank(1, 2), 1);
    due("as dark as four others", r.rank(0, 0), 2);
    ink(2, 2, 2);
    ink(6, 2, 2);
    due("two alike", r.rank(0, 1), 1);
    due("behind both", r.rank(1, 2), 3);
    due("the last", r.rank(1, 0), 4);
    int[][] none = {{0, 3}, {0, -1}, {0, -2}, {1, 3}, {2, 0}, {-1, 0}};
    for (int[] o : none) due("rank(" + o[0] + ", " + o[1] + ")", r.rank(o[0], o[1]), -1);
    for (int far : FAR) due("by " + far, r.rank(far, 0) + r.rank(0, far), -2);
    unmark();
    due("not marked", r.rank(0, 0), -2);
    for (int[] o : none) due("NONE first: rank(" + o[0] + ", " + o[1] + ")", r.rank(o[0], o[1]), -1);
    printed("size 17 17; box 1 1; many 0 0,2 0,4 0,6 0,8 0,10 0; many 0 2,2 2,4 2,6 2,8 2,10 2;");
    for (int i = 0; i < 9; i++) r.fill(4 + i % 6 * 2, 4 + i / 6 * 2, 1, 1, 9 - i);
    due("the last of twelve", r.rank(1, 5), 10);
  }

  private static void apartIs(int step, int ahead, int judgedElse) {
    due("apart(0)", r.apart(0), step);
    due("apart(1)", r.apart(1), ahead);
    due("apart(2)", r.apart(2), judgedElse);
  }

  @Says(promise = 30, words = "the greatest step from one to the next, of like ones the first, what 0: it (0 of fewer than two), 1: how many are ahead of it (0 if it is 0)")
  static void stepsAmongAllBoxes() {
    printed(PLAIN);
    apartIs(0, 0, 0);
    ink(6, 8, 1);
    apartIs(1, 1, 1);
    // 30 20 10 0 0 0: of like ones the first
    ink(6, 8, 10);
    ink(2, 2, 20);
    ink(10, 8, 30);
    apartIs(10, 1, 1);
    ink(6, 8, 11);
    apartIs(11, 3, 1);
    for (int[] o : new int[][] {{2, 2, 36}, {6, 2, 36}, {10, 2, 36}, {2, 8, 36}, {6, 8, 36}, {10, 8, 35}}) ink(o[0], o[1], o[2]);
    apartIs(1, 5, 5);
    ink(10, 8, 36);
    apartIs(0, 0, 0);
    printed("size 17 17; box 2 2; many 2 2;");
    ink(2, 2, 36);
    apartIs(0, 0, 0);
    printed(NO_QUESTION);
    apartIs(0, 0, 0);
    printed("size 17 17; box 2 2; many 2 2; many 6 2;");
    ink(6, 2, 36);
    apartIs(36, 1, 0);
  }

  @Says(promise = 30, words = "(of like ones by QUESTIONS, then as they stand)")
  static void likeBoxesAmongAll() {
    printed(PLAIN);
    // three of 20 in both questions, three of 8: all of 20 are ahead, whichever stands first
    int[][] inks = {{2, 2, 8}, {6, 2, 20}, {10, 2, 8}, {2, 8, 20}, {6, 8, 8}, {10, 8, 20}};
    for (int[] o : inks) ink(o[0], o[1], o[2]);
    apartIs(12, 3, 0);
    ink(2, 2, 20);
    due("double: both are ticked", r.judged(0, 0), 3);
    apartIs(12, 4, 0);
  }

  @Says(promise = 30, words = "2: how many BOXES are TICKED and not ahead of it, or ahead of it and not TICKED")
  static void boxesJudgedElse() {
    printed(PLAIN);
    // question 0 ticks 10 of 10 0 0, question 1 its 36 of 36 0 0: ahead is the 36 alone
    ink(2, 2, 10);
    ink(2, 8, 36);
    apartIs(26, 1, 1);
    // the step of 6 is ticked, by MARGIN 7 it is doubtful: ahead and not ticked
    ink(2, 2, 0);
    ink(2, 8, 6);
    apartIs(6, 1, 0);
    r.set(3, 7);
    apartIs(6, 1, 1);
    // of one question clear: the second is ahead and rubbed out
    r.set(3, 6);
    ink(2, 8, 0);
    ink(2, 2, 30);
    ink(6, 2, 20);
    apartIs(20, 2, 1);
    ink(2, 2, 23);
    apartIs(20, 2, 0);
  }

  @Says(promise = 30, words = {"-2: not MARKED", "NONE: no FORM", "no such what"})
  static void noSuchStepAmongAll() {
    for (int what = -1; what <= 3; what++) due("no form: apart(" + what + ")", r.apart(what), -1);
    form(PLAIN);
    for (int what = 0; what < 3; what++) due("not marked: apart(" + what + ")", r.apart(what), -2);
    for (int what : new int[] {-1, 3, 4}) due("NONE first: apart(" + what + ")", r.apart(what), -1);
    r.print(9);
    for (int what : new int[] {-1, 3, 4}) due("apart(" + what + ")", r.apart(what), -1);
    for (int far : FAR) due("apart(" + far + ")", r.apart(far), -1);
  }

  /** By both ends it is judged as by MARGIN; beyond them it is not. */
  private static void steadyIs(int q, int least, int greatest) {
    due("steady(" + q + ", 0)", r.steady(q, 0), least);
    due("steady(" + q + ", 1)", r.steady(q, 1), greatest);
    int answer = r.judged(q, 0);
    int state = r.judged(q, 1);
    int margin = r.set(3, least);
    due("as by MARGIN " + least, r.judged(q, 0) == answer && r.judged(q, 1) == state, true);
    r.set(3, greatest);
    due("as by MARGIN " + greatest, r.judged(q, 0) == answer && r.judged(q, 1) == state, true);
    if (r.set(3, least - 1) >= 0) due("not as by less", r.judged(q, 0) == answer && r.judged(q, 1) == state, false);
    if (r.set(3, greatest + 1) >= 0) due("not as by more", r.judged(q, 0) == answer && r.judged(q, 1) == state, false);
    r.set(3, margin);
  }

  @Says(promise = 31, words = "The least (what 0), the greatest (1) MARGIN of 1 to 200, so that by it, and by all between it and MARGIN")
  static void marginsFrom1To200() {
    printed(LARGE);
    // step, MARGIN, the least, the greatest
    int[][] rows = {
      {0, 6, 1, 200}, {0, 1, 1, 200}, {0, 200, 1, 200}, {1, 1, 1, 1}, {1, 2, 2, 2}, {1, 3, 3, 200}, {7, 7, 1, 7}, {7, 8, 8, 14}, {7, 14, 8, 14},
      {7, 15, 15, 200}, {99, 198, 100, 198}, {99, 199, 199, 200}, {100, 101, 101, 200}, {100, 200, 101, 200}, {101, 102, 102, 200},
      {199, 199, 1, 199}, {199, 200, 200, 200}, {200, 200, 1, 200}, {201, 1, 1, 200}, {324, 200, 1, 200},
    };
    for (int[] o : rows) {
      inkLarge(2, 2, o[0]);
      due("the step", r.judged(0, 3), o[0]);
      r.set(3, o[1]);
      steadyIs(0, o[2], o[3]);
    }
  }

  @Says(promise = 31, words = "the QUESTION has the ANSWER and is DOUBTFUL, DOUBLE, or neither, as by MARGIN")
  static void marginsOfADoubleOne() {
    printed(PLAIN);
    ink(2, 2, 20);
    ink(6, 2, 18);
    due("double", r.judged(0, 1), 2);
    steadyIs(0, 1, 18);
    r.set(3, 18);
    steadyIs(0, 1, 18);
    r.set(3, 19);
    steadyIs(0, 19, 36);
    r.set(3, 37);
    steadyIs(0, 37, 200);
    steadyIs(1, 1, 200);
  }

  @Says(promise = 31, words = {"-2: not MARKED", "NONE: no such ones"})
  static void noSuchMargins() {
    due("no form", r.steady(0, 0), -1);
    form(PLAIN);
    due("not marked", r.steady(0, 0), -2);
    due("not marked", r.steady(1, 1), -2);
    int[][] none = {{2, 0}, {-1, 0}, {0, 2}, {0, -1}, {2, 2}};
    for (int[] o : none) due("NONE first: steady(" + o[0] + ", " + o[1] + ")", r.steady(o[0], o[1]), -1);
    r.print(9);
    for (int[] o : none) due("steady(" + o[0] + ", " + o[1] + ")", r.steady(o[0], o[1]), -1);
    for (int far : FAR) due("by " + far, r.steady(far, 0) + r.steady(0, far), -2);
  }

  @Says(words = {"QUESTIONS 12 at most", "BOXES 6 at most in one"})
  static void judgedOfSeventyTwoBoxes() {
    r.blank(40, 40);
    for (int k = 0; k < 4; k++) r.corner(k, k % 2 == 0 ? 1 : 38, k / 2 == 0 ? 1 : 38);
    int[][] corners = {{1, 1}, {38, 1}, {1, 38}, {38, 38}};
    due("form", form(largest("one", "key f")), 12);
    for (int q = 0; q < 12; q++) r.tick(q, 1 << q % 6);
    due("print", r.print(9), 36 + 12);
    for (int q = 0; q < 12; q++) judgedIs(q, 1 << q % 6, 0, 0, 9, q % 6 == 5 ? 1 : 0);
    int[] sheet = {2, 0, 0, 0, 0};
    for (int what = 0; what < 5; what++) due("sheet(" + what + ")", r.sheet(what), sheet[what]);
    apartIs(9, 12, 0);
    due("unlike", r.unlike(), 0);
    due("up", r.up(), 0);
    r.set(5, 0);
    due("all others are rubbed out", r.sheet(4), 60);
    r.set(3, 10);
    due("all are rubbed out", r.sheet(4), 72);
    apartIs(9, 12, 12);
    // all boxes are as dark as can be but the last one: 71 are ahead of it
    r.set(3, 6);
    for (int q = 0; q < 12; q++) r.tick(q, q < 11 ? 63 : 31);
    due("print", r.print(9), 36 + 71);
    apartIs(9, 71, 0);
    due("the last one's rank", r.rank(11, 5), 72);
    due("all others'", r.rank(11, 4), 1);
    due("its dot", r.dot(between(corners, 12, 9, 2 * 8 + 1, 2 * 7 + 1, 0), between(corners, 12, 9, 2 * 8 + 1, 2 * 7 + 1, 1)), 0);
    due("double ones", r.sheet(2), 12);
    due("lay", r.lay(), 0);
    due("the last answer", r.laid(0, 21), 31);
    due("double ones", r.laid(0, 2), 4095);
    due("chosen", r.chosen(11, 5) * 10 + r.chosen(10, 5), 1);
  }

  // ---- settings

  @Says(words = "SETTINGS: 0 LEVEL 1 to 9 (5), 1 SPECK 1 to 20 (2), 2 MARK 1 to 60 (6), 3 MARGIN 1 to 200 (6), 4 CLEAR 0 to 200 (4), 5 RUBBED 0 to 200 (3), 6 PENALTY 0 to 20 (0)")
  static void settingsFromTheirLeastToTheirMost() {
    int[][] bounds = {{1, 9, 5}, {1, 20, 2}, {1, 60, 6}, {1, 200, 6}, {0, 200, 4}, {0, 200, 3}, {0, 20, 0}};
    for (int k = 0; k < 7; k++) {
      int least = bounds[k][0];
      int most = bounds[k][1];
      due("set(" + k + ") to its least", r.set(k, least), bounds[k][2]);
      due("set(" + k + ") to its most", r.set(k, most), least);
      due("set(" + k + ") as it is", r.set(k, most), most);
    }
    for (int k = 0; k < 7; k++) due("none changes another: set(" + k + ")", r.set(k, bounds[k][1]), bounds[k][1]);
  }

  @Says(promise = 6, words = {"SETTING k is v: what it was", "NONE: no such ones"})
  static void noSuchSettings() {
    int[][] bounds = {{1, 9, 5}, {1, 20, 2}, {1, 60, 6}, {1, 200, 6}, {0, 200, 4}, {0, 200, 3}, {0, 20, 0}};
    for (int k = 0; k < 7; k++) {
      due("set(" + k + ") below its least", r.set(k, bounds[k][0] - 1), -1);
      due("set(" + k + ") above its most", r.set(k, bounds[k][1] + 1), -1);
      for (int far : FAR) due("set(" + k + ", " + far + ")", r.set(k, far), -1);
    }
    for (int k : new int[] {-1, 7, 8, -7}) due("set(" + k + ", 5)", r.set(k, 5), -1);
    for (int far : FAR) due("set(" + far + ", 5)", r.set(far, 5), -1);
    for (int k = 0; k < 7; k++) due("it stays: set(" + k + ")", r.set(k, bounds[k][2]), bounds[k][2]);
  }
}
