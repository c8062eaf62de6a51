/** For each promise runs of calls with the answers that the document asks for, worked out by hand. */
public final class PromiseTest extends Sentences {
  public static void main(String[] args) {
    newObject();
    feed();
    formAnswers();
    formFaults();
    formLimits();
    countAndQuestion();
    set();
    blankRowFillDot();
    noiseAndSeed();
    turnCopyShift();
    stretchCleanSmooth();
    keepBack();
    blobs();
    marks();
    shape();
    map();
    dark();
    judgedSteps();
    judgedDoubles();
    judgedRubbed();
    judgedPoints();
    sheet();
    rankAndApart();
    steady();
    cornerTickPrint();
    unlike();
    up();
    layAndLaid();
    chosen();
    copied();
    telling();
    pointsAndTake();
    level();
    refusalsFirst();
    end();
  }

  private static void due(int promise, String call, long got, long want) {
    sentence = "promise " + promise;
    due(call, got, want);
  }

  private static void due(int promise, String call, boolean got, boolean want) {
    due(promise, call, got ? 1 : 0, want ? 1 : 0);
  }

  private static void newObject() {
    r = new SheetReader();
    int[] counts = {24, 24, 0, 0, 0, 0, 0, 1, 0, 0, 0};
    for (int i = 0; i < counts.length; i++) due(1, "count " + i, r.count(i), counts[i]);
    int[] settings = {5, 2, 6, 6, 4, 3, 0};
    for (int i = 0; i < settings.length; i++) due(1, "set " + i, r.set(i, settings[i]), settings[i]);
    for (int i = 0; i < 3; i++) due(1, "back " + i, r.back(i), false);
    due(1, "form", form(PLAIN), 2);
    due(1, "tick", r.tick(0, 0), 0);
    due(1, "print", r.print(1), 36);
    due(1, "corner 0", r.dot(2, 2) + r.dot(4, 4), 18);
    due(1, "corner 1", r.dot(21, 2) + r.dot(19, 4), 18);
    due(1, "corner 2", r.dot(2, 21) + r.dot(4, 19), 18);
    due(1, "corner 3", r.dot(21, 21) + r.dot(19, 19), 18);
    due(2, "NONE", SheetReader.NONE, -1);
  }

  private static void feed() {
    r = new SheetReader();
    for (int i = 1; i <= 24; i++) due(2, "feed " + i, r.feed(0, 0, 0, 0, 0), 20 * i);
    due(2, "feed, full", r.feed(0, 0, 0, 0, 0), -1);
    due(2, "count, full", r.count(6), 480);
    due(2, "row of noughts", r.row(0), false);
    due(2, "the highest first", r.feed(0x30313233, 0x34353637, 0x38393031, 0x32333435, 0x36373839), 20);
    due(2, "behind the tape", r.feed(0x39383736, 0x35343332, 0x31303938, 0x37363534, 0x33323130), 40);
    due(2, "row", r.row(0), true);
    String want = "012345678901234567899876";
    for (int x = 0; x < 24; x++) due(2, "dot " + x, r.dot(x, 0), want.charAt(x) - '0');
    r.feed(0xff737a65, 0, 0, 0, 0);
    due(2, "a byte above 127", r.form(4), -1000);
  }

  private static void formAnswers() {
    r = new SheetReader();
    due(3, "n 0", r.form(0), -1);
    tell(PLAIN);
    int fed = r.count(6);
    due(3, "n below 0", r.form(-5), -1);
    due(3, "n 401", r.form(401), -1);
    due(3, "more than there is", r.form(fed + 1), -1);
    due(3, "the tape stays", r.count(6), fed);
    due(3, "form", r.form(PLAIN.length()), 2);
    due(3, "the tape is empty", r.count(6), 0);
    r.tick(0, 3);
    r.tick(1, 5);
    r.print(9);
    r.lay();
    due(3, "laid", r.count(8), 1);
    due(3, "a fault", form("size 17 17; box 2 2; ones"), -1021);
    due(3, "the tape is empty by a fault", r.count(6), 0);
    due(3, "the form stays", r.count(3), 6);
    due(3, "the key stays", r.question(1, 2), 5);
    due(3, "the pile stays", r.count(8), 1);
    due(3, "what is told stays", r.tick(0, 3), 3);
    due(3, "a new form", form(PLAIN), 2);
    due(3, "the pile is empty", r.count(8), 0);
    due(3, "told are 0", r.tick(0, 0) + r.tick(1, 0), 0);
    due(3, "no question", form("size 4 40;box 6 1;"), 0);
    due(3, "U", r.count(4), 4);
    due(3, "V", r.count(5), 40);
    due(3, "of no question", r.question(0, 0), -1);
  }

  private static void formFaults() {
    r = new SheetReader();
    String head = "size 9 9;box 2 2;";
    int h = head.length();
    Object[][] rows = {
      {"\n size\n20 20 ; box 1 1;\n", 0}, {" ", -1001}, {"sizes 4 4;", -1000}, {"Size 4 4;", -1000},
      {"size4 4;box1 1;one0 0;", 1}, {"size 4 4;box 1 1;one0 0,1 1key b a worth0;", 1},
      {"size 3 4;", -2005}, {"size 41 4;", -2005}, {"size 4 3;", -2007}, {"size 40 41;", -2008},
      {"size 4 4 box", -1009}, {"size 4, 4;", -1006}, {"size 4", -1006}, {"size 4 4;", -1009},
      {"size 4 4;box 0 1;", -2013}, {"size 4 4;box 7 1;", -2013}, {"size 4 4;box 1 0;", -2015},
      {"size 4 4;box 1 7;", -2015}, {"size 4 4;box 6 6", -1016}, {"size 4 4;box 6 6;one 0 0;", -2021},
      {"size 04 0004;box 01 1;", 0}, {"size 99999999999 4;", -2005}, {"size 4 4\t;", -1008},
      {head + "two", -1000 - h}, {head + "one", -1003 - h}, {head + "one 7 7;", 1}, {head + "many 7 7;", 1},
      {head + "one 8 0;", -2004 - h}, {head + "one 0 8;", -2006 - h}, {head + "one 0;", -1005 - h},
      {head + "one 0 0", -1007 - h}, {head + "one 0 0,", -1008 - h}, {head + "one 0 0,;", -1008 - h},
      {head + "one 0 0,1 1;", -4010 - h}, {head + "one 0 0,2 0,0 2,2 2;", 1}, {head + "one 0 0,1 8;", -2010 - h},
      {head + "one 0 0;one 1 1;", -4014 - h}, {head + "one 1 0;one 0 1;", -4014 - h}, {head + "one 0 0;one 0 0;", -4014 - h},
      {head + "one 0 0,2 0 key c;", -5016 - h}, {head + "one 0 0,2 0 key a a;", -5018 - h},
      {head + "one 0 0,2 0 key b a;", 1}, {head + "one 0 0 key;", -1011 - h}, {head + "one 0 0 key g;", -1012 - h},
      {head + "one 0 0 key a g;", -1014 - h}, {head + "one 0 0 key ab;", -1012 - h}, {head + "one 0 0 key 1;", -1012 - h},
      {head + "one 0 0 key worth 1;", -1012 - h}, {head + "one 0 0 key f;", -5012 - h}, {head + "one 0 0 key a b;", -5014 - h},
      {head + "one 0 0 worth 100;", -2014 - h}, {head + "one 0 0 worth 99;", 1}, {head + "one 0 0 worth 0;", 1},
      {head + "one 0 0 worth;", -1013 - h}, {head + "one 0 0 worth 1 key a;", -1016 - h},
      {head + "one 0 0 worth 1 worth 1;", -1016 - h}, {head + "one 0 0 a;", -1008 - h}, {head + ";", -1000 - h},
      {head + "one 0 0;;", -1008 - h}, {head + "one 0 0 1;", -1008 - h}, {head + "one 0 0.", -1007 - h}, {head + "one 9 0 ?", -2004 - h},
    };
    for (Object[] x : rows) due(3, "form(" + x[0] + ")", form((String) x[0]), (Integer) x[1]);
  }

  private static void formLimits() {
    r = new SheetReader();
    String head = "size 40 40;box 1 1;";
    int h = head.length();
    String six = "one 0 0,1 0,2 0,3 0,4 0,5 0";
    due(3, "six places", form(head + six + ";"), 1);
    due(3, "a 7th place", form(head + six + ",6 0;"), -3001 - h - six.length());
    due(3, "a 7th place out of bounds", form(head + six + ",40 0;"), -2001 - h - six.length());
    due(3, "a 7th place without a number", form(head + six + ",key"), -1001 - h - six.length());
    due(3, "all letters", form(head + six + " key f e d c b a worth 7;"), 1);
    due(3, "a 7th letter", form(head + six + " key f e d c b a a;"), -5017 - h - six.length());
    StringBuilder twelve = new StringBuilder(head);
    for (int i = 0; i < 12; i++) twelve.append("one ").append(i).append(" 1;");
    due(3, "twelve questions", form(twelve.toString()), 12);
    due(3, "a 13th", form(twelve + "many 0 9;"), -3000 - twelve.length());
    due(3, "a 13th, another word", form(twelve + "two 0 9;"), -1000 - twelve.length());
    due(3, "twelve stay", r.count(2), 12);
    String longest = head + " ".repeat(400 - h - 8) + "one 1 1;";
    due(3, "400 bytes", form(longest), 1);
    due(3, "their place", form(head + " ".repeat(400 - h - 1) + ","), -1399);
    due(3, "the end at 400", form(head + " ".repeat(400 - h - 3) + "one"), -1400);
  }

  private static void countAndQuestion() {
    r = new SheetReader();
    r.blank(30, 9);
    form("size 20 8; box 3 2; many 1 2, 5 6 worth 42; one 17 0 key a;");
    int[] counts = {30, 9, 2, 3, 20, 8, 0, 1, 0};
    for (int i = 0; i < counts.length; i++) due(4, "count " + i, r.count(i), counts[i]);
    r.fill(0, 0, 2, 1, 5);
    r.fill(0, 1, 3, 1, 4);
    due(4, "ink", r.count(9), 2);
    r.set(0, 4);
    due(4, "ink by another level", r.count(9), 5);
    due(4, "darkness", r.count(10), 22);
    due(4, "what below 0", r.count(-1), -1);
    due(4, "what 11", r.count(11), -1);
    int[][] rows = {
      {0, 0, 2}, {0, 1, 2}, {0, 2, 0}, {0, 3, 42}, {0, 4, -1}, {0, 9, -1}, {0, 10, 1}, {0, 11, 5}, {0, 12, -1},
      {0, 20, 2}, {0, 21, 6}, {0, 22, -1}, {1, 0, 1}, {1, 1, 1}, {1, 2, 1}, {1, 3, 1}, {1, 10, 17}, {1, 11, -1},
      {1, 20, 0}, {1, 30, -1}, {0, -1, -1}, {-1, 0, -1}, {2, 0, -1}, {0, MIN, -1}, {0, Integer.MAX_VALUE, -1}, {MIN, 10, -1},
    };
    for (int[] x : rows) due(5, "question(" + x[0] + ", " + x[1] + ")", r.question(x[0], x[1]), x[2]);
    form("size 9 9; box 1 1; one 0 0,1 0,2 0,3 0,4 0,5 0 key f a;");
    due(5, "the key", r.question(0, 2), 33);
    due(5, "box 5", r.question(0, 15), 5);
    due(5, "no box 6", r.question(0, 16), -1);
  }

  private static void set() {
    r = new SheetReader();
    int[] least = {1, 1, 1, 1, 0, 0, 0};
    int[] most = {9, 20, 60, 200, 200, 200, 20};
    int[] first = {5, 2, 6, 6, 4, 3, 0};
    for (int k = 0; k < 7; k++) {
      due(6, "set " + k + " too little", r.set(k, least[k] - 1), -1);
      due(6, "set " + k + " too much", r.set(k, most[k] + 1), -1);
      due(6, "set " + k + " the least", r.set(k, least[k]), first[k]);
      due(6, "set " + k + " the most", r.set(k, most[k]), least[k]);
      due(6, "set " + k + " was", r.set(k, most[k]), most[k]);
    }
    due(6, "no such", r.set(-1, 5), -1);
    due(6, "no such", r.set(7, 5), -1);
  }

  private static void blankRowFillDot() {
    r = new SheetReader();
    r.fill(0, 0, 40, 40, 9);
    int[][] refused = {{7, 8}, {8, 7}, {41, 8}, {8, 41}, {0, 0}, {-8, 8}, {MIN, 8}};
    for (int[] x : refused) due(7, "blank(" + x[0] + ", " + x[1] + ")", r.blank(x[0], x[1]), false);
    due(7, "all stays", r.count(10), 24 * 24 * 9);
    due(7, "blank(8, 40)", r.blank(8, 40), true);
    due(7, "wide", r.count(0), 8);
    due(7, "high", r.count(1), 40);
    due(7, "all 0", r.count(10), 0);
    due(7, "blank(40, 8)", r.blank(40, 8), true);
    due(7, "all 0", r.count(10), 0);
    r.blank(8, 8);
    due(8, "row", row(3, "01234567"), true);
    for (int x = 0; x < 8; x++) due(8, "dot", r.dot(x, 3), x);
    due(8, "the others", r.count(10), 28);
    due(8, "the tape is empty", r.count(6), 0);
    due(8, "another byte", row(3, "0000000:"), false);
    due(8, "the tape is empty then", r.count(6), 0);
    due(8, "another byte", row(3, "/0000000"), false);
    due(8, "the row stays", r.count(10), 28);
    due(8, "a byte behind", row(7, "12345678x"), true);
    tell("99999999");
    due(8, "no such row", r.row(8), false);
    due(8, "no such row", r.row(-1), false);
    due(8, "the tape stays", r.count(6), 20);
    r.blank(21, 8);
    due(8, "not so many", r.row(0), false);
    due(8, "the tape stays", r.count(6), 20);
    due(8, "all stays", r.count(10), 0);
    r.blank(20, 10);
    int[][] fills = {
      {0, 0, 20, 10, 1, 200}, {19, 9, 40, 40, 2, 1}, {18, 8, 3, 1, 3, 2}, {5, 5, 1, 40, 9, 5}, {5, 5, 1, 1, 9, 1},
      {0, 0, 0, 1, 1, -1}, {0, 0, 1, 0, 1, -1}, {0, 0, 41, 1, 1, -1}, {0, 0, 1, 41, 1, -1}, {0, 0, 1, 1, -1, -1},
      {0, 0, 1, 1, 10, -1}, {20, 0, 1, 1, 1, -1}, {0, 10, 1, 1, 1, -1}, {-1, 0, 3, 3, 1, -1}, {0, -1, 3, 3, 1, -1},
    };
    for (int[] x : fills) due(9, "fill " + java.util.Arrays.toString(x), r.fill(x[0], x[1], x[2], x[3], x[4]), x[5]);
    int[][] dots = {{0, 0, 1}, {19, 9, 2}, {18, 8, 3}, {19, 8, 3}, {18, 9, 1}, {5, 9, 9}, {5, 4, 1}, {20, 0, -1}, {0, 10, -1}, {-1, 0, -1}, {0, -1, -1}};
    for (int[] x : dots) due(10, "dot(" + x[0] + ", " + x[1] + ")", r.dot(x[0], x[1]), x[2]);
    due(9, "in all", r.count(10), 200 - 1 + 2 - 2 + 6 - 5 + 45);
  }

  private static void noiseAndSeed() {
    r = new SheetReader();
    due(12, "seed", r.seed(65536 + 7), 1);
    due(12, "seed", r.seed(-1), 7);
    due(12, "seed", r.seed(MIN), 65535);
    due(12, "seed", r.seed(1), 0);
    due(11, "none", r.noise(0), 0);
    due(11, "X stays", r.count(7), 1);
    due(11, "too few", r.noise(-1), -1);
    due(11, "too many", r.noise(501), -1);
    // X is 39022, 61087, 20196: x 9755 mod 24 = 11, y 15271 mod 24 = 7, then 5049 mod 3 = 0
    due(11, "0 at least", r.noise(1), 0);
    due(11, "X", r.count(7), 20196);
    r.fill(0, 0, 24, 24, 9);
    r.seed(1);
    due(11, "one less", r.noise(1), 1);
    due(11, "the dot", r.dot(11, 7), 8);
    due(11, "alone", r.count(10), 24 * 24 * 9 - 1);
    // seeds by which the third draw below 3 is 1, and 2
    for (int last = 1; last < 3; last++) {
      int seed = seedBy(last);
      r.blank(24, 24);
      r.seed(seed);
      due(11, "one more", r.noise(1), 1);
      due(11, "by one", r.count(10), 1);
      r.fill(0, 0, 24, 24, 9);
      r.seed(seed);
      due(11, "9 at most", r.noise(1), 0);
    }
    // the scan's own sides: 40 wide, 8 high
    r.blank(40, 8);
    r.fill(0, 0, 40, 8, 5);
    r.seed(1);
    due(11, "below W, below H", r.noise(1), 1);
    due(11, "the dot", r.dot(9755 % 40, 15271 % 8), 4);
    r.seed(1);
    int x = 1;
    for (int i = 0; i < 1500; i++) x = (25173 * x + 13849) % 65536;
    due(11, "500", r.noise(500) > 200, true);
    due(11, "three draws each", r.count(7), x);
  }

  private static int seedBy(int last) {
    for (int seed = 0; seed < 65536; seed++) {
      int x = seed;
      for (int i = 0; i < 3; i++) x = (25173 * x + 13849) % 65536;
      if (x / 4 % 3 == last) return seed;
    }
    return 0;
  }

  private static void turnCopyShift() {
    r = new SheetReader();
    r.blank(10, 8);
    r.fill(1, 2, 1, 1, 7);
    due(13, "no such", r.turn(-1), -1);
    due(13, "no such", r.turn(4), -1);
    due(13, "by none", r.turn(0), 10);
    due(13, "it stays", r.dot(1, 2), 7);
    due(13, "by one", r.turn(1), 8);
    due(13, "high", r.count(1), 10);
    due(13, "(H - 1 - y, x)", r.dot(5, 1), 7);
    due(13, "by two", r.turn(2), 8);
    due(13, "(W - 1 - x, H - 1 - y)", r.dot(2, 8), 7);
    due(13, "by three", r.turn(3), 10);
    due(13, "(y, W - 1 - x)", r.dot(8, 5), 7);
    due(13, "alone", r.count(10), 7);
    r.blank(10, 8);
    row(0, "1234567890");
    int[][] refused = {
      {0, 0, 0, 1, 0, 0}, {0, 0, 1, 0, 0, 0}, {0, 0, 41, 1, 0, 0}, {0, 0, 1, 41, 0, 0}, {10, 0, 1, 1, 0, 0}, {0, 8, 1, 1, 0, 0},
      {-1, 0, 1, 1, 0, 0}, {0, 0, 1, 1, 10, 0}, {0, 0, 1, 1, 0, 8}, {0, 0, 1, 1, 0, -1}, {0, 0, 1, 1, -1, 0}, {0, -1, 1, 1, 0, 0},
    };
    for (int[] x : refused) due(14, "copy " + java.util.Arrays.toString(x), r.copy(x[0], x[1], x[2], x[3], x[4], x[5]), -1);
    due(14, "over itself, by what was", r.copy(0, 0, 9, 1, 1, 0), 9);
    String want = "1123456789";
    for (int x = 0; x < 10; x++) due(14, "dot " + x, r.dot(x, 0), want.charAt(x) - '0');
    due(14, "those alone that lie there", r.copy(0, 0, 40, 40, 8, 7), 2);
    due(14, "(8, 7)", r.dot(8, 7), 1);
    due(14, "(9, 7)", r.dot(9, 7), 1);
    due(14, "those alone that lie here", r.copy(8, 7, 40, 40, 0, 0), 0);
    due(14, "noughts, too", r.copy(0, 1, 10, 1, 0, 0), 10);
    r.blank(9, 8);
    r.fill(2, 3, 1, 1, 5);
    due(15, "by none", r.shift(0, 0), 0);
    due(15, "shift", r.shift(6, 4), 2);
    due(15, "there", r.dot(8, 7), 5);
    due(15, "back", r.shift(-8, -7), 2);
    due(15, "there", r.dot(0, 0), 5);
    due(15, "out", r.shift(-1, 0), 1);
    due(15, "all 0", r.count(10), 0);
    r.fill(0, 0, 9, 8, 3);
    due(15, "40", r.shift(40, -40), 72);
    int[][] far = {{41, 0}, {-41, 0}, {0, 41}, {0, -41}, {MIN, 0}};
    for (int[] x : far) due(15, "shift(" + x[0] + ", " + x[1] + ")", r.shift(x[0], x[1]), -1);
    r.fill(0, 0, 9, 8, 3);
    due(15, "others alone", r.shift(1, 0), 8);
  }

  private static void stretchCleanSmooth() {
    r = new SheetReader();
    r.blank(8, 8);
    due(16, "all alike", r.stretch(), 0);
    r.fill(0, 0, 8, 8, 4);
    due(16, "all alike", r.stretch(), 0);
    due(16, "they stay", r.dot(0, 0), 4);
    r.fill(0, 0, 8, 8, 2);
    r.fill(1, 0, 1, 1, 3);
    r.fill(2, 0, 1, 1, 4);
    r.fill(3, 0, 1, 1, 6);
    due(16, "stretch", r.stretch(), 63);
    int[] want = {0, 2, 4, 9, 0};
    for (int x = 0; x < 5; x++) due(16, "dot " + x, r.dot(x, 0), want[x]);
    due(16, "again", r.stretch(), 0);

    r.blank(8, 8);
    r.fill(0, 0, 1, 1, 5);
    r.fill(2, 0, 1, 3, 6);
    r.fill(4, 0, 1, 1, 9);
    r.fill(5, 1, 1, 1, 9);
    r.fill(7, 7, 1, 1, 4);
    due(17, "specks", r.clean(), 3);
    due(17, "one is gone", r.dot(0, 0), 0);
    due(17, "no more by a slant", r.dot(5, 1), 0);
    due(17, "three stay", r.dot(2, 2), 6);
    due(17, "no ink stays", r.dot(7, 7), 4);
    r.set(1, 4);
    due(17, "four", r.clean(), 3);
    r.set(1, 1);
    r.fill(0, 0, 1, 1, 5);
    due(17, "none below 1", r.clean(), 0);

    r.blank(9, 8);
    row(0, "120000000");
    row(1, "340000000");
    row(2, "567000000");
    // (0, 0): 1 2 3 4, of two the lesser; (1, 0): 0 0 1 2 3 4; (1, 1): 0 0 1 2 3 4 5 6 7; (0, 3): 0 0 0 0 5 6
    due(18, "smooth", r.smooth(), 6);
    due(18, "of four", r.dot(0, 0), 2);
    due(18, "of six", r.dot(1, 0), 1);
    due(18, "of nine", r.dot(1, 1), 3);
    due(18, "of six, beside", r.dot(0, 1), 3);
    due(18, "(0, 2)", r.dot(0, 2), 3);
    due(18, "(0, 3)", r.dot(0, 3), 0);
    due(18, "(2, 0)", r.dot(2, 0), 0);
    due(18, "in all", r.count(10), 15);
  }

  private static void keepBack() {
    r = new SheetReader();
    due(19, "no such", r.keep(-1), false);
    due(19, "no such", r.keep(3), false);
    due(20, "nothing was", r.back(1), false);
    r.fill(1, 1, 2, 2, 3);
    due(19, "keep", r.keep(0), true);
    r.blank(9, 10);
    r.fill(0, 0, 1, 1, 8);
    due(19, "keep", r.keep(2), true);
    due(20, "back", r.back(0), true);
    due(20, "wide", r.count(0), 24);
    due(20, "dots", r.count(10), 12);
    r.fill(1, 1, 2, 2, 9);
    due(20, "what is kept stays", r.back(0), true);
    due(20, "dots", r.count(10), 12);
    due(20, "back", r.back(2), true);
    due(20, "high", r.count(1), 10);
    due(20, "dot", r.dot(0, 0), 8);
    due(20, "no such", r.back(-1), false);
    due(20, "no such", r.back(3), false);
    due(20, "nothing was", r.back(1), false);
  }

  private static void blobs() {
    r = new SheetReader();
    r.blank(10, 8);
    row(0, "0050000900");
    row(1, "0550000900");
    row(2, "5500440090");
    row(3, "0000000090");
    row(7, "0000000009");
    due(21, "how many", r.blob(-1, 0), 3);
    int[][] want = {{5, 6, 6, 2, 0, 3, 3}, {2, 14, 1, 7, 0, 1, 2}, {2, 16, 5, 8, 2, 1, 2}};
    for (int b = 0; b < 3; b++) {
      for (int what = 0; what < 7; what++) due(21, "blob(" + b + ", " + what + ")", r.blob(b, what), want[b][what]);
    }
    int[][] none = {{3, 0}, {-2, 0}, {0, 7}, {0, -1}, {-1, 1}, {-1, -1}, {MIN, 0}};
    for (int[] x : none) due(21, "blob(" + x[0] + ", " + x[1] + ")", r.blob(x[0], x[1]), -1);
    r.set(1, 1);
    due(21, "specks of one", r.blob(-1, 0), 4);
    r.set(1, 3);
    due(21, "of three", r.blob(-1, 0), 1);
    r.set(1, 1);
    r.set(0, 4);
    due(21, "by level 4", r.blob(-1, 0), 5);
    due(21, "the third", r.blob(2, 1), 9);
    r.set(0, 6);
    due(21, "by level 6", r.blob(0, 0), 2);
    // a ring that closes late is one blob; most blobs there can be
    r.blank(8, 8);
    row(0, "99999999");
    row(1, "90000009");
    row(2, "90999909");
    row(3, "90900909");
    row(4, "90999909");
    row(5, "90000009");
    row(6, "99999999");
    due(21, "two rings", r.blob(-1, 0), 2);
    due(21, "the outer", r.blob(0, 0), 26);
    due(21, "the inner", r.blob(1, 4), 2);
    r.blank(40, 40);
    for (int y = 0; y < 40; y++) row(y, (y % 2 == 0 ? "90" : "09").repeat(20));
    due(21, "a chess board", r.blob(-1, 0), 800);
    due(21, "its last", r.blob(799, 1), 39);
    r.fill(0, 0, 40, 40, 9);
    due(21, "all", r.blob(0, 0), 1600);
    due(21, "its sum", r.blob(0, 2), 40 * 780);
  }

  private static void marks() {
    r = new SheetReader();
    due(22, "none", r.mark(0), -2);
    due(22, "no such", r.mark(4), -1);
    due(22, "no such", r.mark(-1), -1);
    r.fill(2, 2, 3, 2, 5);
    due(22, "one for all", r.mark(3), 0);
    due(23, "not each another", r.marked(), 0);
    r.fill(19, 1, 2, 3, 5);
    r.fill(2, 20, 3, 2, 5);
    due(23, "three", r.marked(), 0);
    r.fill(19, 20, 5, 1, 5);
    due(22, "a blob of 5 is too small", r.mark(3), 2);
    due(23, "three and a small one", r.marked(), 0);
    r.fill(20, 21, 1, 1, 5);
    due(23, "four", r.marked(), 1);
    int[] want = {1, 0, 2, 3};
    for (int k = 0; k < 4; k++) due(22, "mark " + k, r.mark(k), want[k]);
    r.set(2, 7);
    due(22, "none of 7", r.mark(0), -2);
    due(23, "none of 7", r.marked(), 0);
    r.set(2, 1);
    r.set(1, 7);
    due(22, "specks are none", r.mark(0), -2);
    r.set(1, 1);
    r.fill(0, 0, 1, 1, 9);
    due(22, "nearer", r.mark(0), 0);
    due(22, "numbers have moved", r.mark(1), 1);
    // like ones: both middles are as far from (0, 0)
    r.blank(24, 24);
    r.fill(5, 0, 1, 1, 9);
    r.fill(0, 5, 1, 1, 9);
    due(22, "the lowest of like ones", r.mark(0), 0);
    r.fill(3, 4, 1, 1, 9);
    due(22, "as far by the straight line", r.mark(0), 0);
    r.fill(4, 4, 1, 1, 9);
    due(22, "by the middle (7/2, 4)", r.mark(0), 0);
    r.fill(5, 0, 1, 1, 0);
    due(22, "then it is (0, 5)", r.mark(0), 1);
    r.fill(2, 3, 2, 1, 9);
    due(22, "by the middle (3, 11/3)", r.mark(0), 0);
  }

  private static void fourMarks(int x0, int y0, int x1, int y1, int x2, int y2, int x3, int y3) {
    r.blank(24, 24);
    r.fill(x0, y0, 2, 3, 9);
    r.fill(x1, y1, 2, 3, 9);
    r.fill(x2, y2, 2, 3, 9);
    r.fill(x3, y3, 2, 3, 9);
  }

  private static void shape() {
    r = new SheetReader();
    due(24, "not marked", r.shape(0), -2);
    due(24, "no such", r.shape(-1), -1);
    due(24, "no such", r.shape(3), -1);
    fourMarks(1, 1, 20, 1, 1, 20, 20, 20);
    due(24, "a square", r.shape(0), 1);
    due(24, "its area", r.shape(1), 361);
    due(24, "as low", r.shape(2), 0);
    fourMarks(1, 1, 20, 2, 1, 20, 20, 20);
    due(24, "1 is lower", r.shape(2), 1);
    due(24, "its area", r.shape(1), 351);
    fourMarks(1, 3, 20, 1, 1, 20, 20, 20);
    due(24, "1 is higher", r.shape(2), 2);
    // mark 3 lies within the other three: one turns back there
    fourMarks(1, 1, 20, 1, 1, 20, 8, 9);
    due(24, "marked", r.marked(), 1);
    due(24, "a dent", r.shape(0), 0);
    due(24, "its area", r.shape(1), 142);
    // 1, 3 and 2 in one line
    fourMarks(1, 1, 20, 1, 1, 20, 12, 9);
    due(24, "straight on", r.shape(0), 0);
    due(24, "half of a square", r.shape(1), 180);
    // middles of thirds: (4/3, 4/3), area by fractions
    fourMarks(1, 1, 20, 1, 1, 20, 20, 20);
    r.fill(3, 1, 1, 1, 9);
    due(24, "a fraction", r.shape(0), 1);
    // 0 is (12/7, 13/7) instead of (3/2, 2): 361 - 3/14 * 19 / 2 + 1/7 * 19 / 2
    due(24, "a fraction, cut", r.shape(1), 360);
    due(24, "1 is lower by a seventh", r.shape(2), 1);
  }

  private static void map() {
    printed("size 17 17; box 2 2;");
    int[][] rows = {
      {0, 0, 0, 3}, {0, 0, 1, 3}, {34, 34, 0, 20}, {34, 34, 1, 20}, {1, 1, 0, 4}, {1, 1, 1, 4}, {1, 1, 2, 350}, {1, 1, 3, 350},
      {2, 5, 0, 4}, {2, 5, 1, 6}, {2, 5, 2, 400}, {2, 5, 3, 550}, {33, 0, 2, 1950}, {33, 0, 0, 20}, {0, 33, 3, 1950},
      {-1, 0, 0, -1}, {0, -1, 0, -1}, {35, 0, 0, -1}, {0, 35, 0, -1}, {0, 0, -1, -1}, {0, 0, 4, -1}, {MIN, 0, 0, -1},
    };
    for (int[] x : rows) due(25, "map(" + x[0] + ", " + x[1] + ", " + x[2] + ")", r.map(x[0], x[1], x[2]), x[3]);
    r.fill(2, 2, 3, 3, 0);
    due(25, "not marked", r.map(0, 0, 0), -2);
    due(25, "no such first", r.map(0, 0, 4), -1);
    // a form of 4 by 5 over marks that are no square: 0 (3/2, 2), 1 (41/2, 4), 2 (7/2, 21), 3 (37/2, 17)
    form("size 4 5; box 1 1;");
    fourMarks(1, 1, 20, 3, 3, 20, 18, 16);
    int[][] askew = {
      // (1, 1): weights 12 4 3 1 by 20: x 18 + 82 + 10.5 + 18.5 = 129 / 20, y 24 + 16 + 63 + 17 = 120 / 20
      {2, 2, 2, 645}, {2, 2, 3, 600}, {2, 2, 0, 6}, {2, 2, 1, 6},
      // (1/2, 5/2): weights 35 5 35 5 by 80: x 52.5 + 102.5 + 122.5 + 92.5 = 370 / 80, y 70 + 20 + 735 + 85 = 910 / 80
      {1, 5, 2, 462}, {1, 5, 3, 1137}, {1, 5, 0, 5}, {1, 5, 1, 11},
      {8, 10, 2, 1850}, {8, 10, 0, 19}, {8, 10, 3, 1700},
    };
    for (int[] x : askew) due(25, "askew map(" + x[0] + ", " + x[1] + ", " + x[2] + ")", r.map(x[0], x[1], x[2]), x[3]);
    due(25, "V", r.map(8, 11, 0), -1);
    due(25, "U", r.map(9, 10, 0), -1);
    r = new SheetReader();
    due(25, "no form", r.map(0, 0, 0), -1);
  }

  private static void dark() {
    printed(PLAIN);
    ink(2, 2, 5);
    ink(6, 2, 36);
    ink(10, 2, 4);
    ink(2, 8, 7);
    ink(6, 8, 6);
    ink(10, 8, 9);
    int[][] rows = {
      {0, 0, 5}, {0, 1, 36}, {0, 2, 4}, {1, 0, 7}, {1, 1, 6}, {1, 2, 9}, {0, -1, 4}, {1, -1, 4}, {0, 3, -1}, {2, 0, -1}, {2, -1, -1},
      {-1, 0, -1}, {-1, -1, -1}, {0, -2, -1}, {0, MIN, -1},
    };
    for (int[] x : rows) due(26, "dark(" + x[0] + ", " + x[1] + ")", r.dark(x[0], x[1]), x[2]);
    r.fill(2, 2, 3, 3, 0);
    due(26, "not marked", r.dark(0, 0), -2);
    due(26, "paper, not marked", r.dark(0, -1), -2);
    due(26, "no such first", r.dark(0, 3), -1);
    // 36 units fall on few dots: each unit counts; 3 + 17 (i + 1/2) / 40 rounds to 4 4 4 5 5 6 for i of 1 to 6
    printed("size 40 40; box 6 6; one 1 1, 20 20;");
    r.fill(4, 4, 1, 1, 2);
    due(26, "units on one dot", r.dark(0, 0), 2 * 9);
    r.fill(5, 4, 1, 1, 1);
    due(26, "units on two dots", r.dark(0, 0), 2 * 9 + 6);
  }

  private static void judgedSteps() {
    printed("size 17 17; box 2 2; many 2 2, 6 2, 10 2 key a; one 2 8;");
    due(27, "nothing", r.judged(0, 0), 0);
    due(27, "no step", r.judged(0, 3), 0);
    ink(6, 2, 6);
    due(27, "margin", r.judged(0, 0), 2);
    due(27, "neither", r.judged(0, 1), 0);
    due(27, "the step", r.judged(0, 3), 6);
    ink(6, 2, 5);
    due(27, "less", r.judged(0, 0), 0);
    due(27, "doubtful", r.judged(0, 1), 1);
    due(27, "the step", r.judged(0, 3), 5);
    ink(6, 2, 3);
    due(27, "half of it", r.judged(0, 1), 1);
    ink(6, 2, 2);
    due(27, "less than half", r.judged(0, 1), 0);
    r.set(3, 5);
    due(27, "less than half of 5", r.judged(0, 1), 0);
    r.set(3, 4);
    due(27, "half of 4", r.judged(0, 1), 1);
    r.set(3, 6);
    ink(2, 2, 10);
    ink(6, 2, 20);
    ink(10, 2, 30);
    due(27, "of like steps the first", r.judged(0, 0), 4);
    due(27, "the step", r.judged(0, 3), 10);
    ink(2, 2, 11);
    due(27, "the step to the paper", r.judged(0, 0), 7);
    ink(6, 2, 18);
    due(27, "the step to the first", r.judged(0, 0), 4);
    due(27, "the step", r.judged(0, 3), 12);
    ink(6, 2, 27);
    due(27, "the step between", r.judged(0, 0), 6);
    due(27, "paper is of all boxes", r.judged(1, 3), 0);
    ink(2, 8, 10);
    due(27, "to the paper, it is 10", r.judged(0, 3), 16);
    due(27, "the step of the paper itself", r.judged(1, 3), 0);
    int[][] none = {{2, 0}, {-1, 0}, {0, -1}, {0, 5}, {MIN, 0}};
    for (int[] x : none) due(27, "judged(" + x[0] + ", " + x[1] + ")", r.judged(x[0], x[1]), MIN);
    r.fill(2, 2, 3, 3, 0);
    due(27, "not marked", r.judged(0, 0), -1000);
    due(27, "no such first", r.judged(0, 5), MIN);
  }

  private static void judgedDoubles() {
    printed("size 17 17; box 2 2; one 2 2, 6 2, 10 2 key b; many 2 8, 6 8;");
    ink(2, 2, 20);
    ink(6, 2, 24);
    ink(10, 2, 1);
    due(27, "clear: it alone", r.judged(0, 0), 2);
    due(27, "neither", r.judged(0, 1), 0);
    due(27, "the other is rubbed out", r.judged(0, 2), 1);
    due(27, "the step", r.judged(0, 3), 19);
    due(27, "points", r.judged(0, 4), 1);
    ink(6, 2, 23);
    due(27, "not clear: both", r.judged(0, 0), 3);
    due(27, "double", r.judged(0, 1), 2);
    due(27, "none is rubbed out", r.judged(0, 2), 0);
    due(27, "no points", r.judged(0, 4), 0);
    ink(6, 2, 20);
    r.set(4, 0);
    due(27, "clear 0: the first of like ones", r.judged(0, 0), 1);
    due(27, "the other is rubbed out", r.judged(0, 2), 2);
    r.set(4, 1);
    due(27, "clear 1", r.judged(0, 1), 2);
    r.set(5, 200);
    r.set(4, 0);
    due(27, "rubbed out by any setting", r.judged(0, 2), 2);
    r.set(4, 4);
    ink(2, 8, 20);
    ink(6, 8, 30);
    due(27, "many: both", r.judged(1, 0), 3);
    due(27, "many: no double", r.judged(1, 1), 0);
    // three ticked, the first clear of the second
    ink(2, 8, 0);
    ink(2, 2, 21);
    ink(6, 2, 20);
    ink(10, 2, 25);
    due(27, "one of three", r.judged(0, 0), 4);
    due(27, "two are rubbed out", r.judged(0, 2), 3);
    ink(10, 2, 24);
    due(27, "all three", r.judged(0, 0), 7);
  }

  private static void judgedRubbed() {
    printed("size 17 17; box 2 2; many 2 2, 6 2, 10 2; one 2 8, 6 8;");
    ink(2, 2, 3);
    ink(6, 2, 2);
    ink(10, 2, 20);
    due(27, "by 3 and more", r.judged(0, 2), 1);
    r.set(5, 2);
    due(27, "by 2 and more", r.judged(0, 2), 3);
    r.set(5, 0);
    due(27, "by 0 and more: all not ticked", r.judged(0, 2), 3);
    due(27, "of another, too", r.judged(1, 2), 3);
    r.set(5, 3);
    ink(2, 8, 5);
    due(27, "doubtful", r.judged(1, 1), 1);
    due(27, "of a doubtful one, too", r.judged(1, 2), 1);
    ink(6, 8, 3);
    ink(6, 2, 3);
    due(27, "paper is 3: less dark by it", r.judged(0, 2), 0);
    ink(2, 8, 6);
    due(27, "paper is 3: by 3 more", r.judged(1, 2), 1);
  }

  private static void judgedPoints() {
    printed("size 17 17; box 2 2; many 2 2, 6 2, 10 2 key c a worth 9; one 2 8, 6 8;");
    ink(2, 2, 20);
    ink(10, 2, 20);
    r.set(6, 5);
    due(27, "the key", r.judged(0, 4), 9);
    ink(6, 2, 20);
    due(27, "not the key", r.judged(0, 4), -5);
    ink(2, 8, 20);
    due(27, "without a key", r.judged(1, 4), 0);
    ink(2, 2, 0);
    ink(6, 2, 0);
    due(27, "a part of the key", r.judged(0, 4), -5);
    ink(10, 2, 5);
    due(27, "doubtful", r.judged(0, 4), 0);
    ink(10, 2, 0);
    due(27, "none", r.judged(0, 4), 0);
    printed("size 17 17; box 2 2; one 2 2, 6 2, 10 2 key c a worth 9;");
    ink(2, 2, 20);
    ink(10, 2, 20);
    r.set(6, 5);
    due(27, "double, though as the key", r.judged(0, 4), 0);
    ink(6, 2, 19);
    ink(2, 2, 30);
    due(27, "one of the key alone", r.judged(0, 4), -5);
  }

  private static void sheet() {
    r = new SheetReader();
    due(28, "no form", r.sheet(0), MIN);
    printed("size 17 17; box 2 2; one 2 2, 6 2 key a worth 5; one 2 5, 6 5 key a; one 2 8, 6 8; one 2 11, 6 11; one 2 14, 6 14 key b;");
    r.set(6, 2);
    ink(2, 2, 20);
    ink(2, 5, 20);
    ink(6, 5, 20);
    ink(2, 8, 4);
    ink(2, 14, 12);
    ink(6, 14, 8);
    int[] want = {3, 1, 1, 1, 2};
    for (int i = 0; i < 5; i++) due(28, "sheet " + i, r.sheet(i), want[i]);
    due(28, "no such", r.sheet(5), MIN);
    due(28, "no such", r.sheet(-1), MIN);
    r.fill(2, 2, 3, 3, 0);
    due(28, "not marked", r.sheet(0), -1000000);
    due(28, "no such first", r.sheet(5), MIN);
    printed("size 17 17; box 2 2;");
    for (int i = 0; i < 5; i++) due(28, "no question", r.sheet(i), 0);
  }

  private static void rankAndApart() {
    printed(PLAIN);
    due(30, "all alike", r.apart(0), 0);
    due(30, "all alike", r.apart(1), 0);
    due(30, "all alike", r.apart(2), 0);
    int[][] inks = {{2, 2, 4}, {6, 2, 30}, {10, 2, 18}, {2, 8, 18}, {6, 8, 6}, {10, 8, 36}};
    for (int[] x : inks) ink(x[0], x[1], x[2]);
    int[][] ranks = {{0, 0, 6}, {0, 1, 2}, {0, 2, 3}, {1, 0, 3}, {1, 1, 5}, {1, 2, 1}, {0, 3, -1}, {0, -1, -1}, {2, 0, -1}, {-1, 0, -1}};
    for (int[] x : ranks) due(29, "rank(" + x[0] + ", " + x[1] + ")", r.rank(x[0], x[1]), x[2]);
    // 36 30 18 18 6 4: the first 12 counts; question 0 ticks by 14 b and c, by CLEAR b alone; question 1 by 18 c alone
    due(30, "the step", r.apart(0), 12);
    due(30, "ahead of the first of like ones", r.apart(1), 2);
    due(30, "judged as ahead", r.apart(2), 0);
    ink(6, 2, 18);
    // 36 18 18 18 6 4: the step 18, 1 ahead; question 0 ticks b and c (double)
    due(30, "the step", r.apart(0), 18);
    due(30, "ahead", r.apart(1), 1);
    due(30, "judged else", r.apart(2), 2);
    ink(10, 8, 19);
    // 19 18 18 18 6 4: the step 12, 4 ahead; question 1 ticks a and c
    due(30, "ahead", r.apart(1), 4);
    due(30, "as judged", r.apart(2), 0);
    r.set(3, 20);
    due(30, "none is ticked", r.apart(2), 4);
    due(30, "no such", r.apart(3), -1);
    due(30, "no such", r.apart(-1), -1);
    r.fill(2, 2, 3, 3, 0);
    due(29, "not marked", r.rank(0, 0), -2);
    due(29, "no such first", r.rank(0, 3), -1);
    due(30, "not marked", r.apart(0), -2);
    due(30, "no such first", r.apart(3), -1);
    printed("size 17 17; box 2 2; one 2 2;");
    ink(2, 2, 20);
    for (int i = 0; i < 3; i++) due(30, "of one box", r.apart(i), 0);
    printed("size 17 17; box 2 2;");
    for (int i = 0; i < 3; i++) due(30, "of no box", r.apart(i), 0);
    r = new SheetReader();
    due(30, "no form", r.apart(0), -1);
    due(29, "no form", r.rank(0, 0), -1);
  }

  private static void steady() {
    printed(PLAIN);
    int[][] inks = {{2, 2, 7}, {6, 2, 0}};
    for (int[] x : inks) ink(x[0], x[1], x[2]);
    due(31, "ticked", r.steady(0, 0), 1);
    due(31, "to the step", r.steady(0, 1), 7);
    r.set(3, 8);
    due(31, "doubtful", r.steady(0, 0), 8);
    due(31, "to twice of it", r.steady(0, 1), 14);
    r.set(3, 14);
    due(31, "doubtful", r.steady(0, 0), 8);
    r.set(3, 15);
    due(31, "none", r.steady(0, 0), 15);
    due(31, "to 200", r.steady(0, 1), 200);
    due(31, "no step", r.steady(1, 0), 1);
    due(31, "no step", r.steady(1, 1), 200);
    due(31, "no such", r.steady(0, 2), -1);
    due(31, "no such", r.steady(0, -1), -1);
    due(31, "no such", r.steady(2, 0), -1);
    r.fill(2, 2, 3, 3, 0);
    due(31, "not marked", r.steady(0, 0), -2);
    due(31, "no such first", r.steady(2, 0), -1);
    printed("size 17 17; box 6 6; one 2 2, 9 9;");
    r.fill(6, 6, 6, 6, 9);
    due(31, "324 is more", r.steady(0, 1), 200);
    r.fill(6, 6, 6, 6, 4);
    due(31, "144", r.steady(0, 1), 144);
    r.set(3, 145);
    due(31, "doubtful", r.steady(0, 0), 145);
    due(31, "200 at most", r.steady(0, 1), 200);
  }

  private static void cornerTickPrint() {
    r = new SheetReader();
    due(34, "no form", r.print(5), -1);
    int[][] refused = {{-1, 3, 3}, {4, 3, 3}, {0, -1, 3}, {0, 3, -1}, {0, 40, 3}, {0, 3, 40}};
    for (int[] x : refused) due(32, "corner " + java.util.Arrays.toString(x), r.corner(x[0], x[1], x[2]), false);
    form("size 17 17; box 2 1; one 2 2, 6 2, 10 2; many 0 16, 3 3;");
    due(33, "tick", r.tick(0, 7), 0);
    due(33, "tick", r.tick(0, 1), 7);
    due(33, "no such bits", r.tick(0, 8), -1);
    due(33, "no such bits", r.tick(1, 4), -1);
    due(33, "no such bits", r.tick(0, -1), -1);
    due(33, "no such", r.tick(2, 0), -1);
    due(33, "no such", r.tick(-1, 0), -1);
    due(33, "it stays", r.tick(0, 2), 1);
    r.tick(1, 1);
    r.fill(0, 0, 24, 24, 3);
    due(34, "no such", r.print(0), -1);
    due(34, "no such", r.print(10), -1);
    due(34, "all stays", r.count(10), 24 * 24 * 3);
    // box (0, 16) lies on the dots (4, 20), (5, 20): the first is of the corner (3, 20), too
    due(34, "print", r.print(4), 36 + 2 + 1);
    due(34, "the ticked one", r.dot(10, 6), 4);
    due(34, "the ticked one", r.dot(11, 6), 4);
    due(34, "over the corner", r.dot(4, 20), 4);
    due(34, "beside the corner", r.dot(5, 20), 4);
    due(34, "in all", r.count(10), 36 * 9 - 9 + 16);
    due(32, "corner", r.corner(3, 0, 10), true);
    due(34, "it lies not so", r.print(4), -2);
    due(34, "no such first", r.print(0), -1);
    due(34, "all stays", r.count(10), 36 * 9 - 9 + 16);
    int[][] off = {{23, 10, -2}, {10, 23, -2}, {10, 0, -2}, {22, 22, 39}, {1, 1, 43}, {39, 39, -2}};
    for (int[] x : off) {
      due(32, "corner", r.corner(3, x[0], x[1]), true);
      due(34, "print by (" + x[0] + ", " + x[1] + ")", r.print(4) < 0, x[2] < 0);
    }
    r.corner(3, 22, 22);
    r.tick(0, 0);
    r.tick(1, 0);
    due(34, "no box", r.print(9), 36);
    r.corner(3, 20, 3);
    due(34, "two corners at one place", r.print(9), 27);
    r.blank(21, 40);
    due(34, "corners stay, the scan is too small", r.print(9), -2);
    // 0 (3, 3), 1 (36, 3), 2 (3, 20), 3 (36, 36): the point (1/2, 1/2) of 4 by 4
    r.blank(40, 40);
    r.corner(1, 36, 3);
    r.corner(3, 36, 36);
    form("size 4 4; box 1 1; one 0 0, 3 3;");
    r.tick(0, 3);
    // 49 7 7 1 by 64: x 147 + 252 + 21 + 36 = 456, y 147 + 21 + 140 + 36 = 344: (7.125, 5.375); 1 7 7 49: x 3 + 252 + 21 + 1764 = 2040, y 3 + 21 + 140 + 1764 = 1928
    due(34, "print askew", r.print(6), 38);
    due(34, "(0, 0)", r.dot(7, 5), 6);
    due(34, "(3, 3)", r.dot(32, 30), 6);
  }

  private static void unlike() {
    r = new SheetReader();
    due(35, "no form", r.unlike(), -1);
    form(PLAIN);
    due(35, "not marked", r.unlike(), -2);
    r.tick(0, 2);
    r.tick(1, 5);
    r.print(8);
    due(35, "as told", r.unlike(), 0);
    r.tick(0, 3);
    due(35, "one", r.unlike(), 1);
    r.tick(1, 0);
    due(35, "two", r.unlike(), 2);
    r.tick(0, 2);
    r.tick(1, 0);
    due(35, "one", r.unlike(), 1);
  }

  private static void up() {
    r = new SheetReader();
    due(36, "no form", r.up(), -1);
    form(PLAIN);
    due(36, "none", r.up(), -2);
    r.tick(0, 2);
    r.tick(1, 5);
    for (int k = 0; k < 4; k++) {
      r.print(9);
      r.turn(k);
      int dark = r.count(10);
      due(36, "turned by " + k, r.up(), (4 - k) % 4);
      due(36, "nothing is turned", r.sheet(0) == 3, k == 0);
      due(36, "nothing is changed", r.count(10), dark);
    }
    form("size 17 17; box 2 2; one 2 2, 6 2, 10 2;");
    r.tick(0, 1);
    r.print(9);
    r.turn(1);
    due(36, "of like ones the least", r.up(), 0);
    // by a penalty, the other ways are below 0 or at 0: a wrong answer upright, none turned
    form("size 17 17; box 2 2; one 2 2, 6 2 key b;");
    r.tick(0, 1);
    r.print(9);
    r.set(6, 3);
    due(36, "upright it is less", r.sheet(0), -3);
    due(36, "the most is 0", r.up(), 1);
  }

  private static void layAndLaid() {
    r = new SheetReader();
    due(37, "no form", r.lay(), -1);
    due(38, "none is there", r.laid(0, 0), MIN);
    form(PLAIN);
    due(37, "not marked", r.lay(), -2);
    int[][] sheets = {{2, 5, 9}, {1, 5, 9}, {3, 5, 9}, {2, 7, 1}, {0, 2, 9}};
    for (int s = 0; s < 5; s++) {
      r.tick(0, sheets[s][0]);
      r.tick(1, sheets[s][1]);
      r.print(sheets[s][2]);
      due(37, "lay", r.lay(), s);
    }
    // the fourth: each ticked box is by 4 darker: doubtful
    int[][] want = {{3, 0, 0, 1, 2, 5}, {2, 0, 0, 2, 1, 5}, {2, 0, 1, 2, 3, 5}, {0, 3, 0, 4, 0, 0}, {0, 0, 0, 4, 0, 2}};
    for (int s = 0; s < 5; s++) {
      int[] whats = {0, 1, 2, 3, 10, 11};
      for (int i = 0; i < 6; i++) due(38, "laid(" + s + ", " + whats[i] + ")", r.laid(s, whats[i]), want[s][i]);
    }
    int[][] none = {{5, 0}, {-1, 0}, {0, 4}, {0, 9}, {0, 12}, {0, -1}, {0, 22}, {MIN, 0}, {0, MIN}};
    for (int[] x : none) due(38, "laid(" + x[0] + ", " + x[1] + ")", r.laid(x[0], x[1]), MIN);
    r.set(3, 4);
    due(38, "what is kept stays", r.laid(3, 1), 3);
    for (int s = 5; s < 16; s++) due(37, "lay", r.lay(), s);
    due(37, "there are 16", r.lay(), -3);
    due(37, "16", r.count(8), 16);
    r.fill(2, 2, 3, 3, 0);
    due(37, "not marked first", r.lay(), -2);
  }

  /** Lays a sheet of two questions with the answers told. */
  private static void laySheet(int first, int second) {
    r.tick(0, first);
    r.tick(1, second);
    r.print(9);
    r.lay();
  }

  private static void chosen() {
    r = new SheetReader();
    due(39, "no form", r.chosen(0, -1), -1);
    form("size 17 17; box 2 2; one 2 2, 6 2, 10 2 key b; many 2 8, 6 8, 10 8;");
    due(39, "none", r.chosen(0, 0), 0);
    laySheet(2, 5);
    laySheet(2, 6);
    laySheet(1, 7);
    laySheet(3, 0);
    int[][] rows = {{0, 0, 2}, {0, 1, 3}, {0, 2, 0}, {0, -1, 2}, {1, 0, 2}, {1, 1, 2}, {1, 2, 3}, {0, 3, -1}, {0, -2, -1}, {2, 0, -1}, {2, -1, -1}, {-1, 0, -1}};
    for (int[] x : rows) due(39, "chosen(" + x[0] + ", " + x[1] + ")", r.chosen(x[0], x[1]), x[2]);
    due(39, "without a key none are right, the fourth's answer of no box too", r.chosen(1, -1), 0);
    form("size 17 17; box 2 2; one 2 2, 6 2, 10 2 key a b; one 2 8, 6 8, 10 8 key a;");
    laySheet(3, 1);
    due(39, "as the key, but double", r.chosen(0, -1), 0);
    r.print(1);
    r.lay();
    due(39, "right", r.chosen(1, -1), 1);
  }

  private static void copied() {
    r = new SheetReader();
    due(40, "none", r.copied(1, -1), 0);
    due(40, "not so many", r.copied(12, 0), -2);
    form("size 17 17; box 2 2; one 2 2, 6 2, 10 2 key b; many 2 8, 6 8, 10 8 key a; many 2 11, 6 11;");
    r.tick(2, 1);
    int[][] sheets = {{1, 6}, {2, 6}, {1, 6}, {1, 2}, {0, 0}, {2, 1}, {0, 6}, {4, 1}};
    for (int[] x : sheets) laySheet(x[0], x[1]);
    // by question 0: 0 2 3; by question 1: 0 1 2 6; both: 0 2
    int[] one = {1, 2, 3, 6, 102, 106, 203, 206};
    due(40, "how many", r.copied(1, -1), one.length);
    for (int k = 0; k < one.length; k++) due(40, "copied(1, " + k + ")", r.copied(1, k), one[k]);
    due(40, "not so many", r.copied(1, one.length), -2);
    due(40, "by two", r.copied(2, -1), 1);
    due(40, "by two", r.copied(2, 0), 2);
    due(40, "by three", r.copied(3, -1), 0);
    int[][] none = {{0, 0}, {13, 0}, {1, -2}, {-1, -1}, {MIN, 0}, {1, MIN}};
    for (int[] x : none) due(40, "copied(" + x[0] + ", " + x[1] + ")", r.copied(x[0], x[1]), -1);
  }

  private static void telling() {
    r = new SheetReader();
    due(41, "no form", r.telling(0), MIN);
    form("size 17 17; box 2 2; one 2 2, 6 2, 10 2 key b; many 2 8, 6 8, 10 8 key a worth 3;");
    due(41, "none is there", r.telling(0), 0);
    laySheet(2, 2);
    due(41, "the half of one is none", r.telling(0), 0);
    laySheet(1, 1);
    laySheet(2, 1);
    laySheet(0, 1);
    laySheet(2, 4);
    // points 1 3 4 3 1: order 2 1 3 0 4: ahead 2 1, behind 0 4
    due(41, "question 0", r.telling(0), 1 - 2);
    due(41, "question 1", r.telling(1), 2);
    due(41, "no such", r.telling(2), MIN);
    due(41, "no such", r.telling(-1), MIN);
    // order 2 | 1 3 | 0: of four, of like ones the lower number is ahead
    r.take(4);
    r.take(0);
    laySheet(0, 1);
    // points 3 4 3 3: order 1 0 | 2 3
    due(41, "of like ones", r.telling(1), 0);
    due(41, "of like ones", r.telling(0), 1);
    tellingWithoutKey();
  }

  private static void tellingWithoutKey() {
    r = new SheetReader();
    form("size 17 17; box 2 2; one 2 2, 6 2, 10 2 key b; many 2 8, 6 8, 10 8;");
    laySheet(2, 0);
    laySheet(2, 0);
    laySheet(1, 1);
    laySheet(1, 3);
    // points 1 1 0 0: the two ahead have no answer without a key, the two behind have one
    due(41, "with a key", r.telling(0), 2);
    due(41, "without a key none are right", r.telling(1), 0);
    due(39, "with a key", r.chosen(0, -1), 2);
    due(39, "without a key none are right", r.chosen(1, -1), 0);
  }

  private static void pointsAndTake() {
    r = new SheetReader();
    due(42, "none is there", r.points(0), MIN);
    due(43, "none is there", r.take(0), -1);
    form("size 17 17; box 2 2; one 2 2, 6 2, 10 2 key b worth 4; many 2 8, 6 8, 10 8 key a worth 3;");
    r.set(6, 2);
    laySheet(2, 1);
    laySheet(1, 2);
    due(42, "of two the lesser", r.points(3), -4);
    laySheet(2, 2);
    int[] want = {7 - 4 + 2, 7, -4, 2};
    for (int i = 0; i < 4; i++) due(42, "points " + i, r.points(i), want[i]);
    laySheet(0, 1);
    // 7 3 2 -4
    due(42, "of four the lesser", r.points(3), 2);
    due(42, "no such", r.points(4), MIN);
    due(42, "no such", r.points(-1), MIN);
    due(43, "no such", r.take(4), -1);
    due(43, "no such", r.take(-1), -1);
    due(43, "take", r.take(1), 3);
    int[][] left = {{7, 2, 1}, {2, 2, 2}, {3, 0, 1}};
    for (int s = 0; s < 3; s++) {
      due(43, "points of " + s, r.laid(s, 0), left[s][0]);
      due(43, "answer of " + s, r.laid(s, 10), left[s][1]);
      due(43, "answer of " + s, r.laid(s, 11), left[s][2]);
    }
    due(43, "no more", r.laid(3, 0), MIN);
    due(43, "the last", r.take(2), 2);
    due(42, "in all", r.points(0), 9);
    due(43, "take", r.take(0), 1);
    due(43, "take", r.take(0), 0);
    due(42, "none is left", r.points(1), MIN);
    due(43, "16 go again", r.lay(), 0);
  }

  private static void level() {
    r = new SheetReader();
    r.blank(40, 40);
    due(44, "all alike", r.level(), 1);
    r.fill(0, 0, 40, 40, 9);
    due(44, "all alike", r.level(), 1);
    r.fill(0, 0, 40, 20, 0);
    due(44, "halves: of like ones the least", r.level(), 1);
    r.fill(0, 0, 40, 20, 3);
    due(44, "halves of 3 and 9", r.level(), 4);
    r.blank(8, 8);
    row(0, "12345678");
    r.fill(0, 1, 8, 7, 1);
    // of 64 dots 57 of 1 and 2 to 8 once each
    due(44, "a long tail", r.level(), 4);
    // 38 of 0, 3 of 1, 39 of 2: by 1 3078 squared by 1596, 5936 14/100, by 2 3081 squared by 1599, 5936 56/100
    r.blank(10, 8);
    r.fill(0, 0, 10, 4, 2);
    r.fill(9, 3, 1, 1, 1);
    r.fill(0, 4, 2, 1, 1);
    due(44, "greater by less than 1", r.level(), 2);
    // by more than 9223372036854775807 apart: 800 of 0, 400 of 8, 400 of 9
    r.blank(40, 40);
    r.fill(0, 0, 40, 10, 8);
    r.fill(0, 10, 40, 10, 9);
    due(44, "large squares", r.level(), 1);
    r.fill(0, 20, 40, 20, 1);
    due(44, "large squares", r.level(), 2);
  }

  private static void refusalsFirst() {
    r = new SheetReader();
    r.blank(8, 8);
    form("size 4 4; box 1 1; one 0 0;");
    due(34, "corners told stay by blank", r.print(5), -2);
    r.corner(0, 1, 1);
    r.corner(1, 6, 1);
    r.corner(2, 1, 6);
    r.corner(3, 6, 6);
    due(34, "1 from its sides", r.print(5), 36);
    due(23, "9 dots each", r.marked(), 1);
    due(35, "none told, none judged", r.unlike(), 0);
    due(24, "area", r.shape(1), 25);
    r.turn(1);
    due(13, "corners stay", r.print(5), 36);
  }
}
