import java.util.Arrays;

/** What is printed, which way is up, the pile: for each sentence of the document that names a boundary, a test. */
public final class PileEdges extends Sentences {
  private static final String NO_QUESTION = "size 17 17; box 2 2;";

  public static void main(String[] args) throws Exception {
    runAll(PileEdges.class);
  }

  // ---- printed

  @Says(promise = 32, words = "Corner k is told as (x, y): true; false: no such k, not 0 to 39 both")
  static void noSuchCorners() {
    form(NO_QUESTION);
    int[][] none = {{-1, 5, 5}, {4, 5, 5}, {0, -1, 5}, {0, 5, -1}, {0, 40, 5}, {0, 5, 40}, {3, -1, 40}, {4, 40, 40}};
    for (int[] c : none) due("corner" + Arrays.toString(c), r.corner(c[0], c[1], c[2]), false);
    for (int far : FAR) due("by " + far, r.corner(far, 5, 5) || r.corner(0, far, 5) || r.corner(0, 5, far), false);
    due("all stay", r.print(1), 36);
    int[][] corners = {{3, 3}, {20, 3}, {3, 20}, {20, 20}};
    for (int[] c : corners) due("(" + c[0] + ", " + c[1] + ")", r.dot(c[0] - 1, c[1] - 1) + r.dot(c[0] + 1, c[1] + 1), 18);
    // 0 to 39 is taken, though it lies at the side of the scan, or outside
    int[][] told = {{0, 0, 0}, {1, 39, 0}, {2, 0, 39}, {3, 39, 39}};
    for (int[] c : told) {
      due("corner" + Arrays.toString(c), r.corner(c[0], c[1], c[2]), true);
      due("it can't be printed", r.print(1), -2);
      due("back", r.corner(c[0], corners[c[0]][0], corners[c[0]][1]), true);
      due("it can", r.print(1), 36);
    }
  }

  @Says(words = "(x, y) in THE SCAN, 1 at least from its sides")
  static void corners1FromTheSides() {
    form(NO_QUESTION);
    r.blank(10, 12);
    int[][] fit = {{1, 1}, {8, 1}, {1, 10}, {8, 10}};
    for (int k = 0; k < 4; k++) r.corner(k, fit[k][0], fit[k][1]);
    due("all 1 from the sides", r.print(1), 36);
    int[][] off = {{0, 1}, {1, 0}, {9, 1}, {1, 11}, {10, 1}, {1, 12}, {0, 0}, {39, 39}};
    for (int k = 0; k < 4; k++) {
      for (int[] o : off) {
        r.corner(k, o[0], o[1]);
        due("corner " + k + " at (" + o[0] + ", " + o[1] + ")", r.print(1), -2);
      }
      r.corner(k, fit[k][0], fit[k][1]);
      due("as it was", r.print(1), 36);
    }
  }

  @Says(promise = 34, words = {"-2: a corner told does not lie so", "NONE: no such DARKNESS", "no FORM"})
  static void printsThatAreRefused() {
    for (int v : new int[] {1, 9, 0, 10}) due("no form: print(" + v + ")", r.print(v), -1);
    r.corner(2, 0, 20);
    due("no form comes first", r.print(5), -1);
    form(PLAIN);
    r.fill(0, 0, 24, 24, 3);
    due("a corner", r.print(5), -2);
    for (int v : new int[] {0, 10, -1, -9, 11}) due("NONE first: print(" + v + ")", r.print(v), -1);
    r.corner(2, 3, 20);
    for (int v : new int[] {0, 10, -1, -9, 11}) due("print(" + v + ")", r.print(v), -1);
    for (int far : FAR) due("print(" + far + ")", r.print(far), -1);
    due("all stays", r.count(10), 576 * 3);
    r.tick(0, 1);
    for (int v : new int[] {1, 9}) {
      due("print(" + v + ")", r.print(v), 40);
      due("in all", r.count(10), 36 * 9 + 4L * v);
    }
  }

  @Says(words = "all DOTS are 0; round each corner told 3 by 3 DOTS are 9; then (over those, too)")
  static void printedOverTheCorners() {
    form("size 17 17; box 1 1; many 0 0, 16 16, 0 16, 16 0, 8 8;");
    r.fill(0, 0, 24, 24, 7);
    due("nothing told", r.print(1), 36);
    due("what was is gone", r.count(10), 324);
    r.tick(0, 31);
    // the units' dots are (4, 4), (20, 20), (4, 20), (20, 4): each of a corner's nine
    due("over the corners", r.print(1), 37);
    int[][] dots = {{4, 4}, {20, 20}, {4, 20}, {20, 4}, {12, 12}};
    for (int[] d : dots) due("(" + d[0] + ", " + d[1] + ")", r.dot(d[0], d[1]), 1);
    due("in all", r.count(10), 32 * 9 + 5);
  }

  @Says(words = "DOTS of the middles of all UNITS of all BOXES told as ANSWERS are INKED by a DARKNESS (1 to 9), in THE SCAN alone; others stay")
  static void inkedDotsAlone() {
    form("size 17 17; box 2 2; many 2 2, 6 2; one 13 13, 2 13;");
    r.tick(0, 2);
    r.tick(1, 1);
    for (int v = 1; v <= 9; v++) {
      due("print(" + v + ")", r.print(v), 44);
      due("in all", r.count(10), 324 + 8L * v);
      int[][] inked = {{10, 6}, {11, 6}, {10, 7}, {11, 7}, {17, 17}, {18, 17}, {17, 18}, {18, 18}};
      for (int[] d : inked) due("(" + d[0] + ", " + d[1] + ")", r.dot(d[0], d[1]), v);
    }
    // the widest corners of the widest scan: the boxes at the form's sides lie within, the last ones on a corner's dots
    r.blank(40, 40);
    for (int k = 0; k < 4; k++) r.corner(k, k % 2 == 0 ? 1 : 38, k / 2 == 0 ? 1 : 38);
    form("size 40 40; box 1 1; many 0 0, 39 39, 20 20;");
    r.tick(0, 7);
    // 1 + 37 / 80 is 1.4625, 1 + 37 * 79 / 80 is 37.5375, 1 + 37 * 41 / 80 is 19.9625
    due("print(4)", r.print(4), 37);
    int[][] dots = {{1, 1}, {38, 38}, {20, 20}};
    for (int[] d : dots) due("(" + d[0] + ", " + d[1] + ")", r.dot(d[0], d[1]), 4);
    due("in all", r.count(10), 34 * 9 + 12);
  }

  @Says(words = "by a MAP with those as MIDDLES, DOTS of the middles of all UNITS of all BOXES told as ANSWERS are INKED")
  static void inkedBetweenCornersAskew() {
    int[][] corners = {{2, 1}, {21, 4}, {1, 19}, {19, 22}};
    for (int k = 0; k < 4; k++) due("corner " + k, r.corner(k, corners[k][0], corners[k][1]), true);
    int[][] places = {{0, 0}, {4, 7}, {3, 3}, {0, 7}, {4, 0}};
    form("size 7 9;box 3 2;many 0 0,4 7,3 3,0 7,4 0;");
    for (int b = 0; b < 5; b++) {
      int[][] want = new int[24][24];
      for (int[] c : corners) {
        for (int n = 0; n < 9; n++) want[c[1] - 1 + n / 3][c[0] - 1 + n % 3] = 9;
      }
      for (int n = 0; n < 6; n++) {
        int i = 2 * (places[b][0] + n % 3) + 1;
        int j = 2 * (places[b][1] + n / 3) + 1;
        want[between(corners, 7, 9, i, j, 1)][between(corners, 7, 9, i, j, 0)] = 5;
      }
      int dark = 0;
      int sum = 0;
      for (int n = 0; n < 576; n++) {
        dark += want[n / 24][n % 24] > 0 ? 1 : 0;
        sum += want[n / 24][n % 24];
      }
      r.tick(0, 1 << b);
      due("print", r.print(5), dark);
      due("in all", r.count(10), sum);
      for (int n = 0; n < 576; n++) {
        if (want[n / 24][n % 24] == 5) due("(" + n % 24 + ", " + n / 24 + ")", r.dot(n % 24, n / 24), 5);
      }
    }
  }

  @Says(promise = 34, words = "PRINTED by a DARKNESS: how many DOTS are not 0 then")
  static void cornersAtOnePlace() {
    form("size 17 17; box 2 2; many 2 2, 6 2;");
    for (int k = 0; k < 4; k++) r.corner(k, 5, 6);
    due("one corner for all", r.print(4), 9);
    r.tick(0, 3);
    due("all boxes lie on its middle", r.print(4), 9);
    due("the middle", r.dot(5, 6), 4);
    due("in all", r.count(10), 76);
    r.corner(3, 6, 6);
    due("one beside it", r.print(4), 12);
  }

  @Says(words = "ANSWERS told (bits; 0 at first)")
  static void noAnswersAtFirst() {
    form(questions(12, "many"));
    for (int q = 0; q < 12; q++) due("tick(" + q + ", 0)", r.tick(q, 0), 0);
    due("nothing is ticked", r.print(9), 36);
    for (int q = 0; q < 12; q++) due("tick(" + q + ", 3)", r.tick(q, 3), 0);
    due("all are ticked", r.print(9), 60);
  }

  @Says(promise = 33, words = {"The ANSWER of a QUESTION is told as bits (of its BOXES): what it was", "NONE: no such ones"})
  static void noSuchAnswers() {
    due("no form", r.tick(0, 0), -1);
    form("size 17 17; box 1 1; one 0 0; many 2 0,4 0,6 0,8 0,10 0,12 0; one 0 4,2 4,4 4;");
    int[][] most = {{0, 1}, {1, 63}, {2, 7}};
    for (int[] o : most) {
      due("all boxes", r.tick(o[0], o[1]), 0);
      for (int bits : new int[] {o[1] + 1, -1, o[1] + 2, 64, 128, -o[1]}) due("tick(" + o[0] + ", " + bits + ")", r.tick(o[0], bits), -1);
      for (int far : FAR) due("tick(" + o[0] + ", " + far + ")", r.tick(o[0], far), -1);
      due("it stays", r.tick(o[0], 0), o[1]);
    }
    for (int q : new int[] {-1, 3, 4, 12}) due("tick(" + q + ", 0)", r.tick(q, 0), -1);
    for (int far : FAR) due("tick(" + far + ", 0)", r.tick(far, 0), -1);
  }

  @Says(promise = 35, words = {"QUESTIONS whose ANSWER is not the told one", "-2: not MARKED", "NONE: no FORM"})
  static void unlikeFromNoneToAll() {
    due("no form", r.unlike(), -1);
    due("no form, though marked", unlikeMarkedWithoutForm(), -1);
    r = new SheetReader();
    form(questions(12, "one"));
    due("not marked", r.unlike(), -2);
    due("print", r.print(9), 36);
    due("none told, none judged", r.unlike(), 0);
    for (int q = 0; q < 12; q++) {
      r.tick(q, 1 + q % 2);
      due("unlike", r.unlike(), q + 1);
    }
    r.print(9);
    due("as told", r.unlike(), 0);
    r.print(5);
    due("all are doubtful", r.unlike(), 12);
    unmark();
    due("not marked", r.unlike(), -2);
    printed(NO_QUESTION);
    due("no question", r.unlike(), 0);
  }

  private static int unlikeMarkedWithoutForm() {
    int[][] corners = {{2, 2}, {19, 2}, {2, 19}, {19, 19}};
    for (int[] c : corners) r.fill(c[0], c[1], 3, 3, 9);
    due("marked", r.marked(), 1);
    return r.unlike();
  }

  // ---- which way is up

  @Says(promise = 36, words = {"-2: none", "NONE: no FORM"})
  static void upWithoutMarks() {
    due("no form", r.up(), -1);
    unlikeMarkedWithoutForm();
    due("no form, though marked", r.up(), -1);
    r.blank(24, 24);
    form(PLAIN);
    due("not marked", r.up(), -2);
    r.print(9);
    unmark();
    due("three marks", r.up(), -2);
  }

  @Says(words = "POINTS of all QUESTIONS together are most (not MARKED: none), of like ones the least")
  static void upOfLikeOnes() {
    printed(NO_QUESTION);
    due("no points at all", r.up(), 0);
    form(PLAIN);
    r.tick(0, 2);
    for (int k = 0; k < 4; k++) {
      r.print(9);
      r.turn(k);
      due("turned by " + k, r.up(), (4 - k) % 4);
      due("nothing is turned", r.count(9), 40);
    }
    // a box goes (2, 2), (12, 2), (12, 12), (2, 12): in none of them is ANSWER the key of two
    form("size 17 17; box 2 2; many 2 2, 12 2, 12 12, 2 12 key a b;");
    r.set(6, 20);
    r.tick(0, 1);
    r.print(9);
    for (int k = 0; k < 4; k++) {
      due("below 0 in all ways, by " + k, r.sheet(0), -20);
      due("the least", r.up(), 0);
      r.turn(1);
    }
    // and one goes (5, 5), (9, 5), (9, 9), (5, 9): wrong, none, right, none
    form("size 17 17; box 2 2; many 2 2, 12 2, 12 12, 2 12 key a b; one 5 5, 9 9 key b;");
    r.tick(0, 1);
    r.tick(1, 1);
    r.print(9);
    due("upright", r.sheet(0), -40);
    due("the most of all below 0", r.up(), 2);
  }

  @Says(words = "(not MARKED: none)")
  static void upWhereOneWayAloneIsMarked() {
    // (10, 0) and (6, 8) are as near to (0, 0); which is lower changes as the scan is turned
    form(NO_QUESTION);
    r.set(1, 1);
    r.set(2, 1);
    int[][] dots = {{10, 0}, {6, 8}, {1, 22}, {22, 22}};
    for (int[] d : dots) r.fill(d[0], d[1], 1, 1, 9);
    int[] marked = {0, 1, 1, 0};
    int[] up = {1, 0, 0, 2};
    for (int k = 0; k < 4; k++) {
      due("marked, by " + k, r.marked(), marked[k]);
      due("up, by " + k, r.up(), up[k]);
      r.turn(1);
    }
  }

  // ---- the pile

  @Says(words = "THE PILE: 16 sheets at most")
  static void sixteenSheetsAtMost() {
    form(PLAIN);
    for (int s = 0; s < 16; s++) {
      due("sheet " + s, laySheet(s % 8, s / 8), s);
      due("how many", r.count(8), s + 1);
    }
    due("the 17th", laySheet(2, 5), -3);
    due("how many", r.count(8), 16);
    for (int s = 0; s < 16; s++) due("answer of " + s, r.laid(s, 11), s / 8);
    due("one is taken", r.take(7), 15);
    due("one goes again", r.lay(), 15);
    due("it", r.laid(15, 10), 2);
    due("no more", r.lay(), -3);
  }

  @Says(promise = 37, words = {"The sheet is laid on THE PILE: its number", "-2: not MARKED", "-3: there are 16", "NONE: no FORM"})
  static void laysThatAreRefused() {
    due("no form", r.lay(), -1);
    unlikeMarkedWithoutForm();
    due("no form, though marked", r.lay(), -1);
    r.blank(24, 24);
    form(NO_QUESTION);
    due("not marked", r.lay(), -2);
    due("none is laid", r.count(8), 0);
    r.print(9);
    for (int s = 0; s < 16; s++) due("without questions, too", r.lay(), s);
    due("there are 16", r.lay(), -3);
    unmark();
    due("not marked comes first", r.lay(), -2);
    due("how many", r.count(8), 16);
    r.blank(8, 8);
    due("none fits, -2", r.lay(), -2);
    due("a fault leaves them", form("size"), -1004);
    due("how many", r.count(8), 16);
  }

  @Says(words = "what is kept of each: ANSWERS, DOUBTFUL ones, DOUBLE ones, POINTS, by THE FORM")
  static void whatIsKeptStays() {
    form(questions(12, "one"));
    for (int q = 0; q < 12; q++) r.tick(q, 2);
    r.set(6, 20);
    r.print(9);
    due("all wrong", r.lay(), 0);
    r.print(5);
    due("all doubtful", r.lay(), 1);
    for (int q = 0; q < 11; q++) r.tick(q, 3);
    r.print(9);
    due("all but the last double", r.lay(), 2);
    r.set(3, 200);
    r.set(6, 0);
    r.blank(8, 8);
    int[][] want = {{-240, 0, 0, 3, 2, 2}, {0, 4095, 0, 1, 0, 0}, {-20, 0, 2047, 2, 3, 2}};
    int[] whats = {0, 1, 2, 3, 10, 21};
    for (int s = 0; s < 3; s++) {
      for (int i = 0; i < 6; i++) due("laid(" + s + ", " + whats[i] + ")", r.laid(s, whats[i]), want[s][i]);
    }
  }

  @Says(promise = 38, words = "Integer.MIN_VALUE: no such ones")
  static void noSuchSheets() {
    for (int what : new int[] {0, 1, 2, 3, 10}) due("no form: laid(0, " + what + ")", r.laid(0, what), MIN);
    form(PLAIN);
    due("none is there", r.laid(0, 0), MIN);
    laySheet(2, 5);
    laySheet(1, 5);
    int[][] none = {{2, 0}, {-1, 0}, {0, -1}, {0, 4}, {0, 9}, {0, 12}, {0, 21}, {2, 10}, {-1, 10}};
    for (int[] o : none) due("laid(" + o[0] + ", " + o[1] + ")", r.laid(o[0], o[1]), MIN);
    for (int far : FAR) {
      due("laid(" + far + ", 0)", r.laid(far, 0), MIN);
      due("laid(0, " + far + ")", r.laid(0, far), MIN);
    }
    due("the last answer", r.laid(1, 11), 5);
    r.take(0);
    due("no more", r.laid(1, 0), MIN);
    due("it has a number less", r.laid(0, 10), 1);
    form(questions(12, "one"));
    r.print(9);
    r.lay();
    due("of twelve the last", r.laid(0, 21), 0);
    due("no 13th", r.laid(0, 22), MIN);
  }

  @Says(promise = 38, words = "what 0 POINTS, 1 DOUBTFUL ones, 2 DOUBLE ones (bits, by QUESTIONS), 3 RANK, 10 + q the ANSWER of a QUESTION")
  static void bitsOfEachOfTwelveQuestions() {
    for (int q = 0; q < 12; q++) {
      r = new SheetReader();
      form(questions(12, "one"));
      r.tick(q, 3);
      r.print(9);
      due("lay", r.lay(), 0);
      r.tick(q, 1);
      r.print(5);
      due("lay", r.lay(), 1);
      r.print(6);
      due("lay", r.lay(), 2);
      int[][] want = {{0, 0, 1 << q, 2, 3}, {0, 1 << q, 0, 2, 0}, {1, 0, 0, 1, 1}};
      int[] whats = {0, 1, 2, 3, 10 + q};
      for (int s = 0; s < 3; s++) {
        for (int i = 0; i < 5; i++) due("laid(" + s + ", " + whats[i] + ")", r.laid(s, whats[i]), want[s][i]);
      }
      due("the answer of another", r.laid(2, 10 + (q + 1) % 12), 0);
    }
  }

  @Says(words = "RANK of one: 1 and how many have more POINTS")
  static void ranksOfLikeOnes() {
    form(PLAIN);
    laySheet(2, 0);
    due("alone", r.laid(0, 3), 1);
    laySheet(0, 5);
    laySheet(2, 0);
    laySheet(2, 5);
    laySheet(0, 0);
    laySheet(0, 5);
    // points 1 2 1 3 0 2
    int[] want = {4, 2, 4, 1, 6, 2};
    for (int s = 0; s < 6; s++) due("rank of " + s, r.laid(s, 3), want[s]);
    r.take(3);
    int[] then = {3, 1, 3, 5, 1};
    for (int s = 0; s < 5; s++) due("rank of " + s, r.laid(s, 3), then[s]);
  }

  @Says(words = "A new FORM empties THE PILE")
  static void aNewFormEmptiesThePile() {
    form(PLAIN);
    for (int s = 0; s < 16; s++) laySheet(2, 5);
    due("full", r.lay(), -3);
    due("another form", form(questions(3, "one")), 3);
    due("how many", r.count(8), 0);
    due("points", r.points(0), MIN);
    due("chosen", r.chosen(0, 0), 0);
    due("copied", r.copied(1, -1), 0);
    due("take", r.take(0), -1);
    due("the first", laySheet(1, 1, 1), 0);
  }

  @Says(words = "CHOSEN: sheets that have a BOX in their ANSWER. RIGHT: sheets whose ANSWER is the key (and neither DOUBTFUL nor DOUBLE)")
  static void chosenAndRight() {
    form("size 17 17; box 2 2; one 2 2, 6 2, 10 2 key a b; many 2 8, 6 8, 10 8 key a c;");
    due("of none", r.chosen(0, -1) + r.chosen(1, 2), 0);
    laySheet(3, 5);
    laySheet(1, 4);
    laySheet(2, 1);
    laySheet(0, 7);
    int[][] rows = {{0, 0, 2}, {0, 1, 2}, {0, 2, 0}, {0, -1, 0}, {1, 0, 3}, {1, 1, 1}, {1, 2, 3}, {1, -1, 1}};
    for (int[] o : rows) due("chosen(" + o[0] + ", " + o[1] + ")", r.chosen(o[0], o[1]), o[2]);
    // a doubtful one has no answer, and is not right though it would be the key's boxes
    r.tick(0, 0);
    r.tick(1, 5);
    r.print(1);
    due("doubtful", r.judged(1, 1), 1);
    r.lay();
    for (int[] o : rows) due("chosen(" + o[0] + ", " + o[1] + ")", r.chosen(o[0], o[1]), o[2]);
    for (int s = 5; s < 16; s++) laySheet(0, 5);
    due("all that can be", r.chosen(1, -1), 12);
  }

  @Says(promise = 39, words = {"CHOSEN: sheets with BOX b of a QUESTION (b NONE: RIGHT)", "NONE: no such ones"})
  static void noSuchChosen() {
    due("no form", r.chosen(0, 0), -1);
    due("no form", r.chosen(0, -1), -1);
    form("size 17 17; box 2 2; one 2 2, 6 2, 10 2; many 2 8, 6 8 key a;");
    laySheet(0, 0);
    int[][] none = {{0, 3}, {0, -2}, {1, 2}, {2, 0}, {2, -1}, {-1, 0}, {-1, -1}};
    for (int[] o : none) due("chosen(" + o[0] + ", " + o[1] + ")", r.chosen(o[0], o[1]), -1);
    for (int far : FAR) due("by " + far, r.chosen(far, 0) + r.chosen(0, far) + r.chosen(far, -1), -3);
    due("without a key none is right, with an answer of no box, too", r.chosen(0, -1), 0);
    due("no answer is not the key", r.chosen(1, -1), 0);
    due("box c", r.chosen(0, 2), 0);
    form(NO_QUESTION);
    due("no question", r.chosen(0, -1), -1);
  }

  @Says(words = "COPIED from each other may two sheets have that have the same ANSWER, not the key and not none, in n QUESTIONS with a key at least")
  static void copiedByNQuestions() {
    form("size 17 17; box 2 2; one 2 2, 6 2, 10 2 key b; many 2 8, 6 8, 10 8 key a; one 2 12, 6 12;");
    // alike by: the key; none; no key; one wrong answer; two
    int[][][] pairs = {{{2, 1, 0}, {2, 1, 0}}, {{0, 0, 0}, {0, 0, 0}}, {{0, 0, 1}, {0, 0, 1}}, {{1, 1, 1}, {1, 1, 1}}, {{1, 3, 1}, {1, 3, 1}},
        {{1, 2, 0}, {4, 2, 0}}, {{1, 2, 0}, {4, 4, 0}}, {{3, 1, 0}, {3, 1, 0}}};
    int[] alike = {0, 0, 0, 1, 2, 1, 0, 1};
    for (int i = 0; i < pairs.length; i++) {
      while (r.count(8) > 0) r.take(0);
      laySheet(pairs[i][0]);
      laySheet(pairs[i][1]);
      for (int n = 1; n <= 3; n++) due("pair " + i + " by " + n, r.copied(n, -1), alike[i] >= n ? 1 : 0);
    }
    // doubtful ones have no answer
    while (r.count(8) > 0) r.take(0);
    r.tick(0, 1);
    r.tick(1, 1);
    r.print(1);
    r.lay();
    r.lay();
    due("both are doubtful", r.laid(0, 1) & r.laid(1, 1), 3);
    due("none", r.copied(1, -1), 0);
  }

  @Says(promise = 40, words = {"COPIED (n 1 to 12): the k-th two of sheets, 100 times the lesser and the greater one (in that order, from 0; k NONE: how many)",
      "-2: not so many", "NONE: no such ones"})
  static void noSuchTwo() {
    due("no form, none", r.copied(12, -1), 0);
    due("not so many", r.copied(1, 0), -2);
    int[][] none = {{0, 0}, {13, 0}, {1, -2}, {0, -1}, {13, -1}, {-1, -1}, {0, -2}};
    for (int[] o : none) due("copied(" + o[0] + ", " + o[1] + ")", r.copied(o[0], o[1]), -1);
    for (int far : FAR) due("copied(" + far + ", 0)", r.copied(far, 0), -1);
    form(questions(12, "one"));
    for (int q = 0; q < 12; q++) r.tick(q, 2);
    r.print(9);
    for (int s = 0; s < 16; s++) r.lay();
    due("the most", r.copied(12, -1), 120);
    int[][] twos = {{0, 1}, {1, 2}, {14, 15}, {15, 102}, {16, 103}, {118, 1315}, {119, 1415}, {120, -2}, {121, -2}, {MAX, -2}, {MIN, -1}, {-2, -1}, {-3, -1}};
    for (int[] o : twos) due("copied(12, " + o[0] + ")", r.copied(12, o[0]), o[1]);
    for (int[] o : none) due("copied(" + o[0] + ", " + o[1] + ")", r.copied(o[0], o[1]), -1);
    r.take(15);
    r.tick(5, 1);
    r.print(9);
    r.lay();
    due("by twelve", r.copied(12, -1), 105);
    due("by eleven", r.copied(11, -1), 120);
    due("the last by twelve", r.copied(12, 104), 1314);
    due("not so many", r.copied(12, 105), -2);
  }

  @Says(promise = 41, words = "RIGHT ones for a QUESTION among the half of THE PILE (cut) with the most POINTS, less those among the half with the fewest (of like ones the lower number ahead)")
  static void tellingByHalves() {
    form("size 17 17; box 2 2; one 2 2, 6 2 key a; one 2 6, 6 6 key a worth 3;");
    due("of none", r.telling(0), 0);
    laySheet(1, 0);
    due("of one the half is none", r.telling(0), 0);
    laySheet(0, 1);
    due("of two: behind", r.telling(0), -1);
    due("of two: ahead", r.telling(1), 1);
    laySheet(1, 1);
    // points 1 3 4: ahead 2, behind 0, the one between counts for none
    due("of three", r.telling(0), 0);
    due("of three", r.telling(1), 1);
    laySheet(1, 1);
    // points 1 3 4 4: ahead 2 3, behind 1 0
    due("of four", r.telling(0), 1);
    due("of four", r.telling(1), 1);
  }

  @Says(promise = 41, words = "(of like ones the lower number ahead)")
  static void tellingOfLikeOnes() {
    form("size 17 17; box 2 2; one 2 2, 6 2 key a; one 2 6, 6 6 key a;");
    laySheet(1, 0);
    laySheet(0, 1);
    due("the first is ahead", r.telling(0), 1);
    due("the second is behind", r.telling(1), -1);
    laySheet(1, 0);
    // of three like ones: 0 ahead, 2 behind
    due("of three", r.telling(0), 0);
    due("of three", r.telling(1), 0);
    for (int s = 3; s < 8; s++) laySheet(1, 0);
    for (int s = 8; s < 16; s++) laySheet(0, 1);
    // the eight ahead are seven and one, the eight behind are none and eight
    due("of sixteen", r.telling(0), 7);
    due("of sixteen", r.telling(1), 1 - 8);
  }

  @Says(promise = 41, words = "Integer.MIN_VALUE: no such QUESTION")
  static void noSuchTelling() {
    due("no form", r.telling(0), MIN);
    form(PLAIN);
    laySheet(2, 5);
    laySheet(0, 0);
    due("the last", r.telling(1), 1);
    for (int q : new int[] {-1, 2, 3, 12}) due("telling(" + q + ")", r.telling(q), MIN);
    for (int far : FAR) due("telling(" + far + ")", r.telling(far), MIN);
    form(NO_QUESTION);
    due("no question", r.telling(0), MIN);
  }

  @Says(promise = 42, words = {"POINTS of THE PILE, what 0 of all, 1 the most, 2 the fewest, 3 the middle one (from the most on, of two the lesser)",
      "Integer.MIN_VALUE: none is there", "no such what"})
  static void pointsOfOneTwoThreeSheets() {
    for (int what = -1; what <= 4; what++) due("no form: points(" + what + ")", r.points(what), MIN);
    form("size 17 17; box 2 2; one 2 2, 6 2 key a worth 4; one 2 6, 6 6 key a worth 3;");
    for (int what = -1; what <= 4; what++) due("none is there: points(" + what + ")", r.points(what), MIN);
    r.set(6, 2);
    int[][] sheets = {{2, 2}, {1, 1}, {1, 2}, {0, 0}, {1, 2}};
    // points -4, 7, 2, 0, 2: then of all, the most, the fewest, the middle one
    int[][] want = {{-4, -4, -4, -4}, {3, 7, -4, -4}, {5, 7, -4, 2}, {5, 7, -4, 0}, {7, 7, -4, 2}};
    for (int s = 0; s < 5; s++) {
      laySheet(sheets[s]);
      for (int what = 0; what < 4; what++) due("points(" + what + ") of " + (s + 1), r.points(what), want[s][what]);
    }
    for (int what : new int[] {-1, 4, 5}) due("points(" + what + ")", r.points(what), MIN);
    for (int far : FAR) due("points(" + far + ")", r.points(far), MIN);
    for (int s = 5; s < 16; s++) laySheet(1, 1);
    // 7 twelve times, then 2 2 0 -4
    due("of sixteen", r.points(0), 84);
    due("the middle one of sixteen", r.points(3), 7);
    for (int s = 1; s < 16; s++) r.take(1);
    due("of one again", r.points(3), -4);
    r.take(0);
    for (int what = 0; what < 4; what++) due("none is left: points(" + what + ")", r.points(what), MIN);
  }

  @Says(promise = 43, words = "The sheet s of THE PILE is taken away (those behind it have a number less): how many are left")
  static void takenFromAllPlaces() {
    form("size 17 17; box 1 1; many 2 2,4 2,6 2,8 2,10 2 key a;");
    for (int s = 0; s < 16; s++) laySheet(s);
    due("the last", r.take(15), 15);
    due("the first", r.take(0), 14);
    due("one between", r.take(6), 13);
    int[] left = {1, 2, 3, 4, 5, 6, 8, 9, 10, 11, 12, 13, 14};
    for (int s = 0; s < 13; s++) due("answer of " + s, r.laid(s, 10), left[s]);
    due("no more", r.laid(13, 10), MIN);
  }

  @Says(promise = 43, words = "The sheet s of THE PILE is taken away")
  static void nothingIsLeftOfATakenOne() {
    form("size 17 17;box 1 1;one 2 2,4 2 key a;one 6 2;");
    r.set(3, 18);
    due("a doubtful one", laySheet(1, 0), 0);
    due("doubtful", r.laid(0, 1), 1);
    due("take", r.take(0), 0);
    r.set(3, 6);
    due("one in its place", laySheet(1, 0), 0);
    due("doubtful", r.laid(0, 1), 0);
    due("points", r.laid(0, 0), 1);
    due("a double one", laySheet(3, 0), 1);
    due("double", r.laid(1, 2), 1);
    due("take", r.take(1), 1);
    due("one in its place", laySheet(2, 0), 1);
    due("double", r.laid(1, 2), 0);
    due("answer", r.laid(1, 10), 2);
  }

  @Says(promise = 43, words = "(those behind it have a number less)")
  static void takenWithAllThatIsKept() {
    form(PLAIN);
    laySheet(2, 5);
    // a doubtful one; a double one; a right one
    r.tick(0, 1);
    r.print(1);
    due("lay", r.lay(), 1);
    due("lay", laySheet(3, 5), 2);
    due("lay", laySheet(2, 2), 3);
    due("take", r.take(0), 3);
    int[][] want = {{0, 3, 0, 3, 0, 0}, {2, 0, 1, 1, 3, 5}, {1, 0, 0, 2, 2, 2}};
    int[] whats = {0, 1, 2, 3, 10, 11};
    for (int s = 0; s < 3; s++) {
      for (int i = 0; i < 6; i++) due("laid(" + s + ", " + whats[i] + ")", r.laid(s, whats[i]), want[s][i]);
    }
  }

  @Says(promise = 43, words = "NONE: no such one")
  static void noSuchSheetToTake() {
    due("no form", r.take(0), -1);
    form(PLAIN);
    due("none is there", r.take(0), -1);
    laySheet(2, 5);
    for (int s : new int[] {-1, 1, 2, 15, 16}) due("take(" + s + ")", r.take(s), -1);
    for (int far : FAR) due("take(" + far + ")", r.take(far), -1);
    due("it stays", r.laid(0, 11), 5);
    due("take(0)", r.take(0), 0);
    due("none is left", r.take(0), -1);
  }
}
