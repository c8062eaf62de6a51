/** The tape and the form's text: for each sentence of the document that names a boundary, a test. */
public final class FormEdges extends Sentences {
  private static final String HEAD = "size 9 8;box 2 3;";
  private static final int H = HEAD.length();
  private static final String UNITS = "size 40 40;box 1 1;";

  public static void main(String[] args) throws Exception {
    runAll(FormEdges.class);
  }

  /** A row of texts, each with its fault and the fault's place behind HEAD. */
  private static void behindHead(Object... textFaultPlace) {
    for (int i = 0; i < textFaultPlace.length; i += 3) {
      int fault = (Integer) textFaultPlace[i + 1];
      int place = (Integer) textFaultPlace[i + 2];
      formIs(HEAD + textFaultPlace[i], fault == 0 ? place : -1000 * fault - H - place);
    }
  }

  // ---- the tape

  @Says(promise = 2, words = "Twenty bytes come behind the tape, the highest of each int first: how many it has")
  static void highestByteFirst() {
    due("feed", r.feed(0x30313233, 0x34353637, 0x38393031, 0x32333435, 0x36373839), 20);
    due("feed", r.feed(0x39383736, 0x35343332, 0x31303938, 0x37363534, 0x33323130), 40);
    due("row", r.row(5), true);
    rowIs(5, "012345678901234567899876");
  }

  @Says(promise = 2, words = "Twenty bytes come behind the tape")
  static void bytesOfIntsBelowZeroAreAbove127() {
    // an int below 0 has a first byte of 128 and more; the bytes behind it stay as they are
    r.feed(0xff313233, 0x34353637, 0x38393031, 0x32333435, 0x36373839);
    r.feed(0x30303030, 0, 0, 0, 0);
    due("the byte 255 is no digit", r.row(0), false);
    r.feed(0x73697a65, 0x2034ffff, -1, -1, -1);
    due("the first 255 is wrong, at its place", r.form(20), -1006);
    r.feed(MIN, 0, 0, 0, 0);
    due("the byte 128", r.form(1), -1000);
  }

  @Says(promise = 2, words = "NONE if that would be more than 480")
  static void tapeOf480IsFull() {
    for (int i = 1; i <= 24; i++) due("feed " + i, r.feed(i, i, i, i, i), 20 * i);
    due("one more", r.feed(1, 2, 3, 4, 5), -1);
    due("bytes", r.count(6), 480);
    due("one more", r.feed(-1, -1, -1, -1, -1), -1);
    due("bytes", r.count(6), 480);
    due("the tape is emptied", r.form(1), -1000);
    due("it goes again", r.feed(1, 2, 3, 4, 5), 20);
  }

  @Says(promise = 2, words = "NONE if that would be more than 480")
  static void theLastTwentyOf480AreKept() {
    r.blank(40, 8);
    String ahead = "x".repeat(460);
    tell(ahead + "12345678901234567890");
    due("full", r.feed(0, 0, 0, 0, 0), -1);
    due("its bytes stay: a form's first 400 are x", r.form(400), -1000);
    due("bytes", r.count(6), 0);
  }

  // ---- the form by the tape

  @Says(promise = 3, words = "THE FORM by the tape's first n bytes (1 to 400; empty then): how many QUESTIONS")
  static void formTakesTheFirstBytesAlone() {
    tell(HEAD + "one 0 0;" + "one 0 3;" + "????");
    due("form by the first question's end", r.form(H + 8), 1);
    due("the tape is empty, what is behind is gone", r.count(6), 0);
    due("there is one question", r.count(2), 1);
    tell(HEAD + "one 0 0;" + "one 0 3;");
    due("form by both", r.form(H + 16), 2);
    tell("  ");
    due("n 1", r.form(1), -1001);
    due("the tape is empty", r.count(6), 0);
  }

  @Says(promise = 3, words = "(1 to 400; empty then)")
  static void formOf400Bytes() {
    String text = HEAD + " ".repeat(400 - H - 8) + "one 0 0;";
    tell(text + "~".repeat(80));
    due("bytes", r.count(6), 480);
    due("form(401)", r.form(401), -1);
    due("form(480)", r.form(480), -1);
    due("the tape stays", r.count(6), 480);
    due("form(400)", r.form(400), 1);
    due("the tape is empty", r.count(6), 0);
  }

  @Says(words = "THE FORM is a TEXT, 1 to 400 bytes (none at first)")
  static void noFormAtFirst() {
    for (int what = 2; what <= 5; what++) due("count(" + what + ")", r.count(what), 0);
    due("question(0, 0)", r.question(0, 0), -1);
    due("tick(0, 0)", r.tick(0, 0), -1);
    due("print(5)", r.print(5), -1);
    due("sheet(0)", r.sheet(0), MIN);
    due("lay()", r.lay(), -1);
    due("a text of one byte is wrong", form(";"), -1000);
    due("there is still none", r.print(5), -1);
    due("a shortest form", form("size4 4;box1 1;"), 0);
    due("there is one, without questions", r.print(5), 36);
  }

  @Says(promise = 3, words = "how many QUESTIONS")
  static void formsOfNoneAndOfTwelveQuestions() {
    formIs(HEAD, 0);
    due("questions", r.count(2), 0);
    due("boxes", r.count(3), 0);
    due("U", r.count(4), 9);
    due("V", r.count(5), 8);
    formIs(questions(12, "one"), 12);
    due("boxes", r.count(3), 24);
  }

  @Says(promise = 3, words = "ANSWERS told are 0, THE PILE is empty")
  static void aFormEmptiesWhatWasTold() {
    form(PLAIN);
    laySheet(2, 5);
    due("sheets", r.count(8), 1);
    due("the same form again", form(PLAIN), 2);
    due("sheets", r.count(8), 0);
    due("told 0", r.tick(0, 1), 0);
    due("told 1", r.tick(1, 1), 0);
    due("laid", r.laid(0, 0), MIN);
    due("a form of one", form("size 17 17;box 2 2;one 2 2,6 2;"), 1);
    due("then one of two", form(PLAIN), 2);
    due("the second is told 0, too", r.tick(1, 0), 0);
  }

  @Says(promise = 3, words = "a FAULT: -1000 times its number, less its place (the tape is empty, all else stays)")
  static void aFaultLeavesAllElse() {
    form(PLAIN);
    laySheet(2, 5);
    tell(HEAD + "many 0 0,2 0 key b;one 3 0;");
    due("a fault late in the text", r.form(H + 25), -1025 - H);
    due("the tape is empty", r.count(6), 0);
    int[] counts = {24, 24, 2, 6, 17, 17, 0, 1, 1};
    for (int i = 0; i < counts.length; i++) due("count(" + i + ")", r.count(i), counts[i]);
    int[] first = {1, 3, 2, 1};
    int[] second = {2, 3, 5, 2};
    for (int what = 0; what < 4; what++) {
      due("question(0, " + what + ")", r.question(0, what), first[what]);
      due("question(1, " + what + ")", r.question(1, what), second[what]);
    }
    due("told", r.tick(0, 2), 2);
    due("told", r.tick(1, 5), 5);
    due("the pile stays", r.laid(0, 11), 5);
    due("the scan stays", r.sheet(0), 3);
    due("no form by a first fault", faultOnNew(), -1);
  }

  private static int faultOnNew() {
    r = new SheetReader();
    form(HEAD + "one 0 0");
    return r.print(9);
  }

  @Says(promise = 3, words = "-1000 times its number, less its place")
  static void faultsAtTheFirstAndTheLastPlace() {
    formIs("x", -1000);
    formIs("", -1);
    formIs(HEAD + " ".repeat(400 - H - 1) + "x", -1399);
    formIs(HEAD + " ".repeat(400 - H - 3) + "one", -1400);
    formIs(HEAD + " ".repeat(400 - H - 5) + "one 9", -2399);
  }

  @Says(promise = 3, words = {"NONE: no such n", "it has not so many (the tape stays)"})
  static void noSuchLengthOfAForm() {
    String text = HEAD + "one 0 0;";
    tell(text);
    int has = r.count(6);
    int[] none = {0, -1, -400, 401, 400, has + 1, MIN, MAX, -MAX};
    for (int n : none) {
      due("form(" + n + ")", r.form(n), -1);
      due("the tape stays", r.count(6), has);
    }
    due("no form", r.count(4), 0);
    due("all that it has: the sign behind the form is wrong", r.form(has), -1000 - text.length());
    tell(text);
    due("the bytes are as they were", r.form(text.length()), 1);
  }

  // ---- tokens

  @Says(words = "TOKENS: words (small letters)")
  static void wordsOfSmallLetters() {
    formIs("size 4 4;box 1 1;", 0);
    formIs("Size 4 4;box 1 1;", -1000);
    formIs("siZe 4 4;box 1 1;", -1000);
    // the signs next to a and z are none of a word: it ends there
    behindHead("one`0 0;", 1, 3, "one{0 0;", 1, 3, "one\u00e40 0;", 1, 3, "`one 0 0;", 1, 0);
    behindHead("onez 0 0;", 1, 0, "aone 0 0;", 1, 0, "on e 0 0;", 1, 0, "on", 1, 0, "ones 0 0;", 1, 0);
    behindHead("one 0 0 key a`;", 1, 13, "one 0 0 keya;", 1, 8, "one 0 0 worthy 1;", 1, 8);
  }

  @Says(words = "NUMBERS (digits)")
  static void numbersOfDigits() {
    // the signs next to 0 and 9
    formIs("size 4/4;", -1006);
    formIs("size 4:4;", -1006);
    formIs("size 40:4;", -1007);
    formIs("size -4 4;", -1005);
    formIs("size +4 4;", -1005);
    formIs("size 4.0 4;", -1006);
    formIs("size 09 10;box 1 1;", 0);
    due("U", r.count(4), 9);
    due("V", r.count(5), 10);
  }

  @Says(words = "the signs , ; each alone")
  static void signsEachAlone() {
    behindHead("one 0 0,,2 0;", 1, 8, "one 0 0;;", 1, 8, "one 0 0,;", 1, 8, "one 0 0;,", 1, 8, ",", 1, 0, ";", 1, 0);
    behindHead("one 0 0,2 0;one 4 0;", 0, 2);
    formIs("size 4 4;;box 1 1;", -1009);
    formIs("size 4,4;box 1 1;", -1006);
    formIs("size 4 4,box 1 1;", -1008);
  }

  @Says(words = "blanks (32, 10) as one likes")
  static void blanksAsOneLikes() {
    formIs("size9 8;box2 3;one0 0key a worth9;many2 0,4 0worth0;", 2);
    due("worth", r.question(0, 3), 9);
    due("worth", r.question(1, 3), 0);
    formIs("\n\n  size \n 9\n8 ; box\n\n2   3 ;\none 0 0 , 2\n0 key a\nb worth 9 ;\n \n", 1);
    due("key", r.question(0, 2), 3);
    formIs("size98;box 2 3;", -2004);
    formIs("size 9 8;box 2 3;one 00;", -1023);
    formIs("si ze 9 8;", -1000);
    int[] noBlanks = {0, 1, 9, 11, 12, 13, 31, 33, 127, 160, 255};
    for (int sign : noBlanks) formIs("size" + (char) sign + "9 8;", -1004);
    for (int sign : noBlanks) formIs(HEAD + (char) sign, -1000 - H);
  }

  // ---- sizes

  @Says(words = "size: U by V UNITS, 4 to 40 each")
  static void sizesOf4To40() {
    formIs("size 4 40;box 1 1;", 0);
    due("U", r.count(4), 4);
    due("V", r.count(5), 40);
    formIs("size 40 4;box 1 1;", 0);
    formIs("size 3 4;box 1 1;", -2005);
    formIs("size 41 4;box 1 1;", -2005);
    formIs("size 0 4;box 1 1;", -2005);
    formIs("size 4 3;box 1 1;", -2007);
    formIs("size 4 41;box 1 1;", -2007);
    formIs("size 4 0;box 1 1;", -2007);
  }

  @Says(words = "box: each BOX is A by B UNITS, 1 to 6 each")
  static void boxesOf1To6() {
    formIs("size 9 9;box 1 6;one 8 3;", 1);
    formIs("size 9 9;box 6 1;one 3 8;", 1);
    formIs("size 9 9;box 0 1;", -2013);
    formIs("size 9 9;box 7 1;", -2013);
    formIs("size 9 9;box 1 0;", -2015);
    formIs("size 9 9;box 1 7;", -2015);
    formIs("size 4 4;box 6 6;", 0);
  }

  @Says(words = "PLACE: x, y of the first UNIT of a BOX (0 on; it lies in U by V)")
  static void placesAtTheSides() {
    behindHead("one 0 0;", 0, 1, "one 7 5;", 0, 1, "one 7 0;", 0, 1, "one 0 5;", 0, 1);
    behindHead("one 8 5;", 2, 4, "one 7 6;", 2, 6, "one 9 0;", 2, 4, "one 0 8;", 2, 6, "one 0 0,8 0;", 2, 8);
    formIs("size 4 5;box 4 5;one 0 0;", 1);
    formIs("size 4 5;box 4 5;one 1 0;", -2021);
    formIs("size 4 5;box 4 5;one 0 1;", -2023);
    formIs("size 40 40;box 1 1;one 39 39;", 1);
    formIs("size 40 40;box 1 1;one 40 39;", -2023);
    formIs("size 40 40;box 1 1;one 39 40;", -2026);
  }

  @Says(words = "(of a PLACE: by which the BOX would not lie within;")
  static void boxesTooLargeForTheForm() {
    formIs("size 4 9;box 5 1;one 0 0;", -2021);
    formIs("size 9 4;box 1 5;one 0 0;", -2023);
    formIs("size 4 4;box 6 6;one 0 0;", -2021);
    formIs("size 4 9;box 5 1;one x", -1021);
  }

  @Says(words = "QUESTIONS 12 at most")
  static void twelveQuestionsAtMost() {
    formIs(questions(11, "many"), 11);
    formIs(questions(12, "many"), 12);
    due("the last one's", r.question(11, 1), 2);
    due("no 13th", r.question(12, 1), -1);
    formIs(questions(12, "one") + "one 0 0;", -3000 - questions(12, "one").length());
  }

  @Says(words = "BOXES 6 at most in one")
  static void sixBoxesAtMost() {
    formIs(UNITS + "many 0 0,1 0,2 0,3 0,4 0,5 0;one 6 0;", 2);
    due("boxes of the first", r.question(0, 1), 6);
    due("the sixth's x", r.question(0, 15), 5);
    due("boxes in all", r.count(3), 7);
    formIs(UNITS + "many 0 0,1 0,2 0,3 0,4 0,5 0,6 0;", -3029 - UNITS.length());
  }

  @Says(words = "BOXES 6 at most in one")
  static void seventyTwoBoxesInAll() {
    String text = largest("one", "key f");
    due("as long as it is", text.length(), 400);
    formIs(text, 12);
    due("boxes", r.count(3), 72);
    for (int q = 0; q < 12; q++) {
      due("boxes of " + q, r.question(q, 1), 6);
      due("key of " + q, r.question(q, 2), 32);
      due("x of its last", r.question(q, 15), (6 * q + 5) % 9);
      due("y of its last", r.question(q, 25), (6 * q + 5) / 9);
    }
    formIs(largest("many", ""), 12);
    due("boxes", r.count(3), 72);
    due("the same again", form(largest("many", "")), 12);
    due("boxes", r.count(3), 72);
  }

  @Says(words = "called a to f as they stand")
  static void boxesCalledAToF() {
    String six = UNITS + "many 0 0,1 0,2 0,3 0,4 0,5 0 key ";
    for (int i = 0; i < 6; i++) {
      formIs(six + (char) ('a' + i) + ";", 1);
      due("key", r.question(0, 2), 1 << i);
    }
    formIs(six + "f e d c b a;", 1);
    due("key", r.question(0, 2), 63);
    formIs(six + "g;", -1000 - six.length());
  }

  @Says(words = "LETTER: a word of one letter a to f")
  static void lettersOfOneSign() {
    String six = UNITS + "many 0 0,1 0,2 0,3 0,4 0,5 0 key ";
    int h = six.length();
    for (String word : new String[] {"aa;", "ab;", "g;", "z;", "A;", "0;", "1;", "`;", ",", ";", "worth 1;", "key a;", "a;"}) {
      formIs(six + word, word.equals("a;") ? 1 : -1000 - h);
    }
    formIs(six + "a b c d e f g;", -1012 - h);
    formIs(six + "a bc;", -1002 - h);
    formIs(six + "f\nworth 3;", 1);
    due("worth", r.question(0, 3), 3);
  }

  @Says(words = "QUESTION: (one | many) PLACE {, PLACE} [key LETTER {LETTER}] [worth N]")
  static void questionsOfTheLeastAndTheMost() {
    formIs(UNITS + "one 0 0;", 1);
    due("one", r.question(0, 0), 1);
    due("boxes", r.question(0, 1), 1);
    formIs(UNITS + "many 0 0;", 1);
    due("many", r.question(0, 0), 2);
    formIs(UNITS + "many 0 0,1 0,2 0,3 0,4 0,5 0 key a b c d e f worth 99;", 1);
    due("boxes", r.question(0, 1), 6);
    due("key", r.question(0, 2), 63);
    due("worth", r.question(0, 3), 99);
    // without a place, without a comma, with the parts in another order
    int h = UNITS.length();
    formIs(UNITS + "one ;", -1004 - h);
    formIs(UNITS + "one 0 0 1 0;", -1008 - h);
    formIs(UNITS + "one key a 0 0;", -1004 - h);
    formIs(UNITS + "one 0 0 worth 1 key a;", -1016 - h);
    formIs(UNITS + "one many 0 0;", -1004 - h);
  }

  @Says(words = "2 a NUMBER out of its bounds")
  static void numbersOutOfTheirBounds() {
    formIs("size 3", -2005);
    formIs("size 41", -2005);
    formIs("size 9 3", -2007);
    formIs("size 9 9;box 0", -2013);
    formIs("size 9 9;box 7", -2013);
    formIs("size 9 9;box 1 7", -2015);
    behindHead("one 8", 2, 4, "one 7 6", 2, 6, "one 0 0 worth 100", 2, 14, "one 7", 1, 5, "one 7 5", 1, 7, "one 0 0 worth 99", 1, 16);
  }

  @Says(words = "key: which are right (none without), worth: 0 to 99 (1)")
  static void withoutAKeyAndAWorth() {
    formIs(HEAD + "one 0 0,2 0;", 1);
    due("key", r.question(0, 2), 0);
    due("worth", r.question(0, 3), 1);
    formIs(HEAD + "one 0 0,2 0 worth 0;many 4 0 worth 99;one 6 0 key a;", 3);
    int[][] want = {{0, 0}, {0, 99}, {1, 1}};
    for (int q = 0; q < 3; q++) {
      due("key of " + q, r.question(q, 2), want[q][0]);
      due("worth of " + q, r.question(q, 3), want[q][1]);
    }
    behindHead("one 0 0 worth 100;", 2, 14, "one 0 0 worth 999;", 2, 14, "one 0 0 worth;", 1, 13, "one 0 0 key;", 1, 11);
    behindHead("one 0 0 worth 5 key a;", 1, 16, "one 0 0 worth 5 worth 5;", 1, 16, "one 0 0 key a key a;", 1, 14);
    // a form that is told later has no key of one told before, and no box
    r = new SheetReader();
    form(HEAD + "one 0 0 key a worth 7;");
    form(HEAD + "one 0 0 key a worth 7;");
    due("one without", form(HEAD + "one 0 0;"), 1);
    due("boxes", r.question(0, 1), 1);
    due("boxes in all", r.count(3), 1);
    due("key", r.question(0, 2), 0);
    due("worth", r.question(0, 3), 1);
  }

  // ---- faults

  @Says(words = "the first TOKEN from the left that is wrong, at its first byte")
  static void theFirstWrongToken() {
    formIs("size 3 41;box 0 7;one", -2005);
    formIs("size 4 41;box 0 7;one", -2007);
    formIs("sizes 3;", -1000);
    behindHead("one 10 10;two", 2, 4, "one 0 10;two", 2, 6, "one 0 0 key z worth 100;", 1, 12, "one 0 0 key b worth 100;", 5, 12);
    behindHead("one 0 0;  one 1 1;", 4, 16, "one 0 0 worth    1000;", 2, 17, "one  \n 7000 0;", 2, 7);
  }

  @Says(words = "(the end: at the length)")
  static void theEndIsAtTheLength() {
    String text = "size 9 8;box 2 3;one 0 0,2 0 key a worth 5;";
    int[] ends = {4, 6, 8, 9, 12, 14, 16, 20, 22, 24, 25, 27, 29, 32, 34, 40, 42};
    for (int end : ends) formIs(text.substring(0, end), -1000 - end);
    formIs(text.substring(0, 17), 0);
    formIs(text, 1);
    formIs(text.substring(0, 22) + " \n \n", -1026);
    formIs(" ", -1001);
    formIs("\n\n\n", -1003);
    // the end is where n says, not where the tape ends
    r = new SheetReader();
    tell(text);
    due("without the last sign", r.form(42), -1042);
    tell(text);
    due("a word cut by n", r.form(3), -1000);
    tell("size 40 8;box 2 3;");
    due("a number cut by n is the end behind it", r.form(6), -1006);
  }

  @Says(words = "of one TOKEN the least")
  static void ofOneTokenTheLeastFault() {
    String twelve = questions(12, "one");
    String six = UNITS + "one 0 0,1 0,2 0,3 0,4 0,5 0,";
    formIs(twelve + "two 0 0;", -1000 - twelve.length());
    formIs(twelve + "7", -1000 - twelve.length());
    formIs(six + "key", -1000 - six.length());
    formIs(six + "40 0;", -2000 - six.length());
    formIs(six + "39 99;", -3000 - six.length());
    // both out of bounds and over another one
    behindHead("one 0 5,1 6;", 2, 10, "one 0 5,1 5;", 4, 10);
    // no letter a to f, though there is no such box, too
    behindHead("one 0 0 key g;", 1, 12, "one 0 0 key aa;", 1, 12, "one 0 0 key f;", 5, 12);
  }

  @Says(words = "1 it can't stand there (another sign, too)")
  static void whatCantStandThere() {
    int[] signs = {'!', '.', '-', '_', '\t', '\r', 0, '~', 'A', 'Z', '[', '@', 200, 255};
    for (int sign : signs) {
      formIs((char) sign + HEAD, -1000);
      behindHead("one 0 0" + (char) sign + ";", 1, 7, (char) sign + "one 0 0;", 1, 0);
    }
    formIs("box 2 3;size 9 8;", -1000);
    // words as long as those that can stand there, one letter of them another
    for (String word : new String[] {"tize", "saze", "sise", "sizi"}) formIs(word + " 9 8;", -1000);
    for (String word : new String[] {"fox", "bax", "boy"}) formIs("size 9 8;" + word + " 2 3;", -1009);
    for (String word : new String[] {"ene", "ode", "ona", "lany", "mony", "maly", "mana"}) behindHead(word + " 0 0;", 1, 0);
    for (String word : new String[] {"ley", "kay", "kex"}) behindHead("one 0 0 " + word + " a;", 1, 8);
    for (String word : new String[] {"forth", "warth", "wosth", "worsh", "worte"}) behindHead("one 0 0 " + word + " 5;", 1, 8);
    formIs("size 9 8;size 9 8;", -1009);
    formIs("size 9 8;one 0 0;", -1009);
    formIs("size nine 8;", -1005);
    formIs("size 9 8 7;", -1009);
    behindHead("0 0;", 1, 0, "one;", 1, 3, "one one 0 0;", 1, 4, "one 0,0;", 1, 5, "one 0 0 2 0;", 1, 8, "one 0 0 a;", 1, 8);
    behindHead("one 0 0 key ;", 1, 12, "one 0 0 key 0;", 1, 12, "one 0 0 key a,b;", 1, 13, "one 0 0 key worth 5;", 1, 12);
    behindHead("one 0 0 worth a;", 1, 14, "key a;", 1, 0, "worth 5;", 1, 0, "one key a;", 1, 4);
  }

  @Says(words = "NUMBERS above 999 are 999")
  static void numbersAbove999() {
    // each of these is a small number again, if it is wrapped around at 2^8, 2^16, 2^31, 2^32, 2^63 or 2^64
    String[] large = {"999", "1000", "1004", "260", "65540", "2147483652", "4294967300", "9223372036854775812",
        "18446744073709551620", "9".repeat(300), "1" + "0".repeat(299) + "4"};
    for (String number : large) {
      formIs("size " + number + " 4;box 1 1;", -2005);
      formIs("size 4 " + number + ";box 1 1;", -2007);
      formIs("size 9 9;box " + number + " 1;", -2013);
    }
    for (String number : new String[] {"256", "65536", "4294967296", "18446744073709551616"}) {
      behindHead("one " + number + " 0;", 2, 4, "one 0 " + number + ";", 2, 6, "one 0 0 worth " + number + ";", 2, 14);
    }
    formIs("size 0000000000000000000000000004 00000000000000000000040;box 01 000006;", 0);
    due("U", r.count(4), 4);
    due("V", r.count(5), 40);
  }

  @Says(words = "3 a 13th QUESTION (at its first word)")
  static void aThirteenthQuestion() {
    String twelve = questions(12, "one") + " \n";
    int at = twelve.length();
    formIs(twelve, 12);
    formIs(twelve + "one", -3000 - at);
    formIs(twelve + "many", -3000 - at);
    formIs(twelve + "one 99 99;", -3000 - at);
    formIs(twelve + "onee", -1000 - at);
  }

  @Says(words = "the first NUMBER of a 7th PLACE")
  static void aSeventhPlace() {
    String six = UNITS + "one 0 0,1 0,2 0,3 0,4 0,5 0";
    int at = six.length();
    formIs(six + " ;", 1);
    formIs(six + ", 6 0;", -3002 - at);
    formIs(six + ",6", -3001 - at);
    formIs(six + ",", -1001 - at);
    formIs(six + ",;", -1001 - at);
    formIs(six + ",0 0;", -3001 - at);
    // six of each question
    formIs(six + ";one 6 0,7 0,8 0,9 0,10 0,11 0;", 2);
  }

  @Says(words = "4 the second NUMBER of a PLACE by which the BOX would lie over another one (some UNIT is of both)")
  static void boxesOverAnother() {
    // boxes of 2 by 3 round one at (3, 3): they touch, or share one unit
    String middle = "one 3 3;";
    behindHead(middle + "one 1 3;", 0, 2, middle + "one 5 3;", 0, 2, middle + "one 3 0;", 0, 2, "one 3 2;one 3 5;", 0, 2);
    behindHead(middle + "one 1 0;", 0, 2, middle + "one 5 0;", 0, 2, "one 3 2;one 1 5;", 0, 2, "one 3 2;one 5 5;", 0, 2);
    behindHead(middle + "one 2 1;", 4, 14, middle + "one 4 1;", 4, 14, middle + "one 2 5;", 4, 14, middle + "one 4 5;", 4, 14);
    behindHead(middle + "one 3 3;", 4, 14, "one 3 3,3 3;", 4, 10, "one 3 3,4 4;", 4, 10, "one 0 0,2 0,4 0,1 1;", 4, 18);
    // the first number alone is not wrong: the second one, or what stands in its place
    behindHead(middle + "one 3;", 1, 13, middle + "one 3 6;", 2, 14, middle + "one 3 0,3 3;", 4, 18);
    // over the first of twelve
    String twelve = questions(11, "one");
    formIs(twelve + "one 2 2;", -4006 - twelve.length());
    formIs(twelve + "one 2 4;", -4006 - twelve.length());
    formIs(twelve + "one 2 3;", 12);
  }

  @Says(words = "5 a LETTER of no BOX of the QUESTION, or told already")
  static void lettersOfNoBox() {
    behindHead("one 0 0 key a;", 0, 1, "one 0 0 key b;", 5, 12, "one 0 0,2 0 key b;", 0, 1, "one 0 0,2 0 key c;", 5, 16);
    behindHead("one 0 0 key a a;", 5, 14, "one 0 0,2 0 key b a b;", 5, 20, "one 0 0,2 0 key a b c;", 5, 20);
    // boxes of another question are none of it
    behindHead("one 0 0,2 0,4 0 key c;one 6 0 key b;", 5, 34);
    String six = UNITS + "one 0 0,1 0,2 0,3 0,4 0,5 0 key a b c d e f";
    formIs(six + ";", 1);
    formIs(six + " f;", -5001 - six.length());
  }

  // ---- what is asked of it

  @Says(promise = 5, words = {"Of a QUESTION, what 0: 1 of one, 2 of many, 1 BOXES, 2 the key (bits), 3 worth, 10 + i x of BOX i, 20 + i y of it",
      "NONE: no such ones"})
  static void noSuchOfAQuestion() {
    form(UNITS + "many 0 0,1 2,3 4,5 6,7 8,39 39 key f a worth 42;one 10 11;");
    int[] first = {2, 6, 33, 42};
    for (int what = 0; what < 4; what++) due("question(0, " + what + ")", r.question(0, what), first[what]);
    int[] x = {0, 1, 3, 5, 7, 39};
    int[] y = {0, 2, 4, 6, 8, 39};
    for (int i = 0; i < 6; i++) {
      due("x of " + i, r.question(0, 10 + i), x[i]);
      due("y of " + i, r.question(0, 20 + i), y[i]);
    }
    int[][] none = {{0, -1}, {0, 4}, {0, 9}, {0, 16}, {0, 19}, {0, 26}, {0, 30}, {1, 11}, {1, 21}, {1, 9}, {1, 19}, {-1, 0}, {2, 0}, {2, 10}};
    for (int[] o : none) due("question(" + o[0] + ", " + o[1] + ")", r.question(o[0], o[1]), -1);
    for (int far : FAR) {
      due("question(0, " + far + ")", r.question(0, far), -1);
      due("question(" + far + ", 0)", r.question(far, 0), -1);
    }
    due("question(1, 10)", r.question(1, 10), 10);
    due("question(1, 20)", r.question(1, 20), 11);
    formIs(HEAD, 0);
    due("of no question", r.question(0, 0), -1);
  }

  @Says(promise = 4, words = {"2 QUESTIONS (0 without a FORM), 3 BOXES, 4 U, 5 V (0 without)", "NONE for others"})
  static void countsWithoutAForm() {
    for (int what = 2; what <= 5; what++) due("count(" + what + ")", r.count(what), 0);
    for (int what : new int[] {-1, 11, -2, 12, 100}) due("count(" + what + ")", r.count(what), -1);
    for (int far : FAR) due("count(" + far + ")", r.count(far), -1);
    form("size 40 4;box 1 1;" + "one 0 0,1 0,2 0,3 0,4 0,5 0;one 7 0;");
    int[] want = {2, 7, 40, 4};
    for (int i = 0; i < 4; i++) due("count(" + (2 + i) + ")", r.count(2 + i), want[i]);
    form(UNITS + "x");
    for (int i = 0; i < 4; i++) due("by a fault they stay: count(" + (2 + i) + ")", r.count(2 + i), want[i]);
  }
}
