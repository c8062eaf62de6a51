import java.io.IOException;
import java.lang.reflect.InvocationTargetException;
import java.lang.reflect.Method;
import java.lang.reflect.Modifier;
import java.nio.file.Files;
import java.nio.file.Path;
import java.util.ArrayList;
import java.util.List;

/** What tests by sentences of the document have in common: a reader, ways to tell it things, answers that are due. */
abstract class Sentences {
  static final int MIN = Integer.MIN_VALUE;
  static final int MAX = Integer.MAX_VALUE;
  /** Numbers that no call takes for a small one. */
  static final int[] FAR = {MIN, MIN + 1, -1000000, 1000000, MAX - 1, MAX};
  /** With the corners as at first, in a scan of 24 by 24, unit (i, j) of 17 by 17 lies on the dot (4 + i, 4 + j). */
  static final String PLAIN =
      "size 17 17; box 2 2; one 2 2, 6 2, 10 2 key b; many 2 8, 6 8, 10 8 key a c worth 2;";

  static SheetReader r;
  /** What is told with an answer that is not due. */
  static String sentence;
  private static int asked;
  private static int wrong;

  /** Runs every test that says a sentence; a test that asks nothing, or quotes what is not there, is wrong. */
  static void runAll(Class<?> tests) throws IOException, IllegalAccessException {
    String document = inOneLine(Files.readString(Path.of("../shared/DOC.md")));
    int found = 0;
    for (Method test : tests.getDeclaredMethods()) {
      Says says = test.getAnnotation(Says.class);
      if (says == null) {
        boolean isTest = test.getParameterCount() == 0 && test.getReturnType() == void.class && !Modifier.isPrivate(test.getModifiers());
        due(test.getName() + " says a sentence", !isTest, true);
        continue;
      }
      found++;
      sentence = (says.promise() == 0 ? "Terms" : "Promise " + says.promise()) + ", " + test.getName();
      for (String words : says.words()) {
        due("the document says: " + words, sectionOf(document, says.promise()).contains(words), true);
      }
      int before = asked;
      r = new SheetReader();
      try {
        test.invoke(null);
      } catch (InvocationTargetException e) {
        due("it threw " + e.getCause(), false, true);
      }
      due("something is asked", asked > before, true);
    }
    System.out.print(found + " sentences, ");
    end();
  }

  static void end() {
    System.out.println(asked + " answers asked, " + wrong + " not as due");
    if (wrong != 0 || asked == 0) System.exit(1);
  }

  static String inOneLine(String text) {
    return text.replaceAll("\\s+", " ");
  }

  /** The part of the document that a promise's number names, in one line. */
  static String sectionOf(String document, int promise) {
    int from = promise == 0 ? 0 : document.indexOf("## Promise " + promise + ":");
    int end = document.indexOf(promise == 44 ? "## Not promised" : "## Promise " + (promise + 1) + ":");
    return from < 0 || end < from ? "" : document.substring(from, end);
  }

  static void due(String call, long got, long want) {
    asked++;
    if (got != want) {
      wrong++;
      System.out.println(sentence + ": " + call + " answered " + got + ", due is " + want);
    }
  }

  static void due(String call, boolean got, boolean want) {
    due(call, got ? 1 : 0, want ? 1 : 0);
  }

  // ---- telling a reader

  /** Puts a text on the tape; the last feed is filled up by a sign that no form and no row takes. */
  static void tell(String text) {
    StringBuilder all = new StringBuilder(text);
    while (all.length() % 20 != 0) all.append('~');
    for (int at = 0; at < all.length(); at += 20) {
      int[] five = new int[5];
      for (int i = 0; i < 20; i++) five[i / 4] = five[i / 4] << 8 | all.charAt(at + i);
      r.feed(five[0], five[1], five[2], five[3], five[4]);
    }
  }

  static int form(String text) {
    tell(text);
    return r.form(text.length());
  }

  /** A new reader is told a form: what it answers is due. */
  static void formIs(String text, int want) {
    r = new SheetReader();
    due("form(" + inOneLine(text) + ")", form(text), want);
  }

  static boolean row(int y, String digits) {
    tell(digits);
    return r.row(y);
  }

  static void rows(String... all) {
    for (int y = 0; y < all.length; y++) row(y, all[y]);
  }

  /** Asks a row of dots, from the first one on. */
  static void rowIs(int y, String digits) {
    for (int x = 0; x < digits.length(); x++) due("dot(" + x + ", " + y + ")", r.dot(x, y), digits.charAt(x) - '0');
  }

  /** A new reader with a form and its marks printed, no box ticked. */
  static void printed(String text) {
    r = new SheetReader();
    due("form(" + text + ")", form(text) >= 0, true);
    due("print(9)", r.print(9), 36);
  }

  /** Makes the box of 2 by 2 units at (x, y) so dark in all, with the corners as at first and 17 by 17 units. */
  static void ink(int x, int y, int sum) {
    for (int i = 0; i < 4; i++) {
      r.fill(4 + x + i % 2, 4 + y + i / 2, 1, 1, sum / 4 + (i < sum % 4 ? 1 : 0));
    }
  }

  /** Where the point (i / 2, j / 2) of a form of u by v lies between four dots: 0 for x, 1 for y. */
  static int between(int[][] corners, int u, int v, int i, int j, int side) {
    int[] weights = {(2 * u - i) * (2 * v - j), i * (2 * v - j), (2 * u - i) * j, i * j};
    int sum = 0;
    for (int k = 0; k < 4; k++) sum += weights[k] * corners[k][side];
    return (sum + 2 * u * v) / (4 * u * v);
  }

  /** The largest form: 12 questions with 6 boxes each, box n of all 72 at (n % 9, n / 9); told with as few blanks as can be. */
  static String largest(String kind, String behind) {
    StringBuilder text = new StringBuilder("size12 9;box1 1;");
    for (int n = 0; n < 72; n++) {
      text.append(n % 6 == 0 ? kind : ",").append(n % 9).append(' ').append(n / 9).append(n % 6 == 5 ? behind + ";" : "");
    }
    return text.toString();
  }

  /** Takes a mark away, so that the scan is not marked; nothing else of it changes. */
  static void unmark() {
    r.fill(2, 2, 3, 3, 0);
  }

  /** Lays a sheet with these answers. */
  static int laySheet(int... answers) {
    for (int q = 0; q < answers.length; q++) r.tick(q, answers[q]);
    r.print(9);
    return r.lay();
  }

  /** So many questions of two boxes of one unit each, the first one the key. */
  static String questions(int n, String kind) {
    StringBuilder text = new StringBuilder("size 17 17;box 1 1;");
    List<String> places = new ArrayList<>();
    for (int q = 0; q < n; q++) places.add((q % 6 * 2 + 2) + " " + (q / 6 * 4 + 2) + "," + (q % 6 * 2 + 2) + " " + (q / 6 * 4 + 4));
    for (String place : places) text.append(kind).append(' ').append(place).append(" key a;");
    return text.toString();
  }
}
