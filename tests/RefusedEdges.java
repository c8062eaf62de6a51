import java.lang.reflect.Method;
import java.util.ArrayList;
import java.util.List;

/** Calls that are refused: what they answer, which reason comes first, and that they change nothing but the tape. */
public final class RefusedEdges extends Sentences {
  private static final String SMALL = "size 9 9;box 1 1;one 1 1,1 3 key a;many 4 1,4 3,4 5 key b worth 2;";
  private static final String OTHER = "size 5 6;box 2 1;many 0 0,2 2,3 4 key c a worth 7;";
  /** Calls that are refused in any state of a reader with the form SMALL, of a scan of 12 by 12. */
  private static final String[] ANYWHERE = {
    "form 0 = -1", "form -1 = -1", "form 401 = -1", "form 400 = -1", "count -1 = -1", "count 11 = -1",
    "question 2 0 = -1", "question -1 0 = -1", "question 0 4 = -1", "question 0 12 = -1", "question 0 22 = -1",
    "set 0 0 = -1", "set 0 10 = -1", "set 1 0 = -1", "set 1 21 = -1", "set 2 0 = -1", "set 2 61 = -1", "set 3 0 = -1", "set 3 201 = -1",
    "set 4 -1 = -1", "set 4 201 = -1", "set 5 -1 = -1", "set 5 201 = -1", "set 6 -1 = -1", "set 6 21 = -1", "set -1 5 = -1", "set 7 5 = -1",
    "blank 7 8 = 0", "blank 8 7 = 0", "blank 41 8 = 0", "blank 8 41 = 0", "row -1 = 0", "row 12 = 0",
    "fill 0 0 0 1 1 = -1", "fill 0 0 1 0 1 = -1", "fill 0 0 41 1 1 = -1", "fill 0 0 1 41 1 = -1", "fill 0 0 1 1 -1 = -1", "fill 0 0 1 1 10 = -1",
    "fill 12 0 1 1 1 = -1", "fill 0 12 1 1 1 = -1", "fill -1 0 9 9 1 = -1", "fill 0 -1 9 9 1 = -1", "dot 12 0 = -1", "dot 0 12 = -1",
    "noise -1 = -1", "noise 501 = -1", "turn -1 = -1", "turn 4 = -1",
    "copy 0 0 0 1 5 5 = -1", "copy 0 0 1 0 5 5 = -1", "copy 0 0 41 1 5 5 = -1", "copy 0 0 1 41 5 5 = -1", "copy 12 0 1 1 5 5 = -1",
    "copy 0 12 1 1 5 5 = -1", "copy 0 0 1 1 12 0 = -1", "copy 0 0 1 1 0 12 = -1", "copy -1 0 9 9 5 5 = -1", "copy 0 0 9 9 -1 5 = -1",
    "shift 41 0 = -1", "shift -41 0 = -1", "shift 0 41 = -1", "shift 0 -41 = -1", "keep -1 = 0", "keep 3 = 0", "back -1 = 0", "back 3 = 0", "back 1 = 0",
    "blob 99 0 = -1", "blob -1 1 = -1", "blob 0 7 = -1", "mark -1 = -1", "mark 4 = -1", "shape -1 = -1", "shape 3 = -1",
    "map -1 0 0 = -1", "map 19 0 0 = -1", "map 0 -1 0 = -1", "map 0 19 0 = -1", "map 0 0 4 = -1", "map 0 0 -1 = -1",
    "dark 2 0 = -1", "dark 2 -1 = -1", "dark 0 2 = -1", "dark 0 -2 = -1", "judged 2 0 = MIN", "judged 0 5 = MIN", "sheet 5 = MIN", "sheet -1 = MIN",
    "rank 2 0 = -1", "rank 0 2 = -1", "rank 0 -1 = -1", "apart 3 = -1", "apart -1 = -1", "steady 2 0 = -1", "steady 0 2 = -1",
    "corner -1 5 5 = 0", "corner 4 5 5 = 0", "corner 0 -1 5 = 0", "corner 0 40 5 = 0", "corner 0 5 -1 = 0", "corner 0 5 40 = 0",
    "tick 0 4 = -1", "tick 0 -1 = -1", "tick 1 8 = -1", "tick 2 0 = -1", "tick -1 0 = -1", "print 0 = -1", "print 10 = -1",
    "laid 16 0 = MIN", "laid -1 0 = MIN", "laid 0 4 = MIN", "laid 0 12 = MIN", "chosen 2 0 = -1", "chosen 0 2 = -1", "chosen 0 -2 = -1",
    "copied 0 0 = -1", "copied 13 0 = -1", "copied 1 -2 = -1", "copied 1 999 = -2", "telling 2 = MIN", "telling -1 = MIN",
    "points 4 = MIN", "points -1 = MIN", "take 16 = -1", "take -1 = -1",
  };

  public static void main(String[] args) throws Exception {
    runAll(RefusedEdges.class);
  }

  /** Makes a call told as its name and numbers; a boolean counts 1 or 0. */
  private static long ask(String call) {
    String[] words = call.split(" ");
    for (Method m : SheetReader.class.getDeclaredMethods()) {
      if (m.getName().equals(words[0]) && m.getParameterCount() == words.length - 1) {
        Object[] numbers = new Object[words.length - 1];
        for (int i = 1; i < words.length; i++) numbers[i - 1] = words[i].equals("MIN") ? MIN : words[i].equals("MAX") ? MAX : Integer.parseInt(words[i]);
        try {
          Object answer = m.invoke(r, numbers);
          return answer instanceof Boolean ? ((Boolean) answer ? 1 : 0) : (Integer) answer;
        } catch (ReflectiveOperationException e) {
          throw new IllegalStateException(call, e);
        }
      }
    }
    throw new IllegalStateException("no such call: " + call);
  }

  /** Asks a row of calls, each told as "call = answer". */
  private static void answersAre(String... calls) {
    for (String told : calls) {
      String[] parts = told.split(" = ");
      due(parts[0], ask(parts[0]), parts[1].equals("MIN") ? MIN : Integer.parseInt(parts[1]));
    }
  }

  /** A reader with all kinds of things in it, and the text OTHER on its tape. */
  private static void full(int sheets, boolean marked) {
    r = new SheetReader();
    r.blank(12, 12);
    for (int k = 0; k < 4; k++) r.corner(k, k % 2 == 0 ? 1 : 10, k / 2 == 0 ? 1 : 10);
    form(SMALL);
    r.tick(0, 2);
    r.tick(1, 6);
    r.print(8);
    r.set(5, 7);
    r.set(6, 3);
    for (int s = 0; s < sheets; s++) r.lay();
    r.fill(5, 9, 2, 3, 4);
    r.keep(0);
    r.seed(77);
    r.noise(3);
    r.keep(2);
    if (!marked) r.fill(0, 0, 3, 3, 0);
    tell(OTHER);
  }

  private static void addScan(List<Integer> seen) {
    for (int what = 0; what <= 10; what++) seen.add(r.count(what));
    for (int i = 0; i < r.count(0) * r.count(1) && i < 144; i++) seen.add(r.dot(i % r.count(0), i / r.count(0)));
  }

  /** What can be seen of the reader in one way; some ways change it. */
  private static List<Integer> seen(int way) {
    List<Integer> seen = new ArrayList<>();
    switch (way) {
      case 0: addScan(seen); break;
      case 1: case 2: case 3:
        seen.add(r.back(way - 1) ? 1 : 0);
        addScan(seen);
        break;
      case 4:
        seen.add(r.print(1));
        addScan(seen);
        break;
      case 5:
        for (int q = 0; q < 2; q++) {
          for (int what = 0; what < 30; what++) seen.add(r.question(q, what));
        }
        for (int q = 0; q < 2; q++) seen.add(r.tick(q, 0));
        int[] least = {1, 1, 1, 1, 0, 0, 0};
        for (int k = 0; k < 7; k++) seen.add(r.set(k, least[k]));
        for (int s = 0; s <= r.count(8); s++) {
          for (int what : new int[] {0, 1, 2, 3, 10, 11}) seen.add(r.laid(s, what));
        }
        break;
      default:
        seen.add(r.form(OTHER.length()));
        for (int what = 0; what < 30; what++) seen.add(r.question(0, what));
        break;
    }
    return seen;
  }

  private static final int WAYS = 7;

  /** In all ways a reader with such a call behind it is seen as one without it; each way sees new ones. */
  private static void changesNothing(int sheets, boolean marked, String... calls) {
    for (int way = 0; way < WAYS; way++) {
      full(sheets, marked);
      List<Integer> want = seen(way);
      for (String told : calls) {
        full(sheets, marked);
        answersAre(told);
        due("all is as it was behind " + told + ", seen by " + way, seen(way).equals(want), true);
      }
    }
  }

  @Says(words = "A call that is refused (NONE, -2 to -9, false) changes nothing but the tape, where it is told")
  static void refusedOfAMarkedScan() {
    changesNothing(3, true, ANYWHERE);
    changesNothing(3, true, "laid 3 0 = MIN", "take 3 = -1");
  }

  @Says(words = "A call that is refused (NONE, -2 to -9, false) changes nothing but the tape, where it is told")
  static void refusedOfAScanThatIsNotMarked() {
    changesNothing(3, false, ANYWHERE);
    changesNothing(3, false, "shape 0 = -2", "map 0 0 0 = -2", "dark 0 0 = -2", "dark 1 -1 = -2", "judged 0 0 = -1000",
        "sheet 0 = -1000000", "rank 0 0 = -2", "apart 2 = -2", "steady 0 1 = -2", "unlike = -2", "up = -2", "lay = -2");
  }

  @Says(words = "A call that is refused (NONE, -2 to -9, false) changes nothing but the tape, where it is told")
  static void refusedOfAFullAndAnEmptyPile() {
    changesNothing(16, true, "lay = -3", "take 16 = -1", "laid 16 0 = MIN");
    changesNothing(0, true, "take 0 = -1", "laid 0 0 = MIN", "points 0 = MIN", "copied 1 0 = -2");
  }

  @Says(words = "A call that is refused (NONE, -2 to -9, false) changes nothing but the tape, where it is told")
  static void refusedByACornerOrAFullTape() {
    for (int way = 0; way < WAYS; way++) {
      full(2, true);
      r.corner(3, 11, 10);
      List<Integer> want = seen(way);
      full(2, true);
      r.corner(3, 11, 10);
      due("print(5)", r.print(5), -2);
      due("all is as it was, seen by " + way, seen(way).equals(want), true);
      full(2, true);
      while (r.count(6) < 480) r.feed(1, 2, 3, 4, 5);
      want = seen(way);
      full(2, true);
      while (r.count(6) < 480) r.feed(1, 2, 3, 4, 5);
      due("feed", r.feed(6, 7, 8, 9, 10), -1);
      due("all is as it was, seen by " + way, seen(way).equals(want), true);
    }
  }

  @Says(words = "changes nothing but the tape, where it is told")
  static void theTapeWhereItIsTold() {
    // a fault of a form, and a row with another byte: the tape is empty, as behind a row that went
    for (int way = 0; way < WAYS - 1; way++) {
      full(3, true);
      due("a form that is none", r.form(5), -1005);
      due("the tape", r.count(6), 0);
      List<Integer> want = seen(way);
      full(3, true);
      due("row(5)", r.row(5), false);
      due("the tape", r.count(6), 0);
      due("all else is as it was, seen by " + way, seen(way).equals(want), true);
      full(3, true);
      tell("x".repeat(400));
      due("form(400): the first sign behind OTHER", r.form(400), -1000 - OTHER.length());
      due("all else is as it was, seen by " + way, seen(way).equals(want), true);
    }
    full(3, true);
    due("a fault empties the tape", r.form(4), -1004);
    List<Integer> behindFault = seen(0);
    full(3, true);
    List<Integer> ahead = seen(0);
    due("how many are seen", behindFault.size(), ahead.size());
    for (int i = 0; i < ahead.size(); i++) {
      if (i != 6) due("seen " + i, behindFault.get(i), ahead.get(i));
    }
  }

  @Says(words = "Of several reasons NONE comes first, then -2, and so on")
  static void noneComesAheadOfNotMarked() {
    full(16, false);
    answersAre("mark 4 = -1", "shape 3 = -1", "map 19 0 0 = -1", "map 0 0 4 = -1", "dark 2 0 = -1", "dark 0 2 = -1", "judged 2 0 = MIN", "judged 0 5 = MIN",
        "sheet 5 = MIN", "rank 2 0 = -1", "rank 0 2 = -1", "apart 3 = -1", "steady 2 0 = -1", "steady 0 2 = -1", "copied 0 999 = -1", "copied 13 999 = -1");
    due("no such darkness, and a corner", r.corner(0, 0, 0), true);
    answersAre("print 0 = -1", "print 10 = -1", "print 5 = -2");
    due("not marked, and 16 sheets", r.count(8), 16);
    answersAre("lay = -2");
    r.blank(12, 12);
    answersAre("lay = -2");
    full(16, true);
    answersAre("lay = -3");
  }

  @Says(words = "Of several reasons NONE comes first, then -2, and so on")
  static void noFormComesAheadOfNotMarked() {
    r.corner(0, 0, 0);
    answersAre("map 0 0 0 = -1", "dark 0 0 = -1", "dark 0 -1 = -1", "judged 0 0 = MIN", "sheet 0 = MIN", "rank 0 0 = -1", "apart 0 = -1", "steady 0 0 = -1",
        "print 5 = -1", "print 0 = -1", "unlike = -1", "up = -1", "lay = -1", "tick 0 0 = -1", "chosen 0 0 = -1", "telling 0 = MIN",
        "mark 0 = -2", "shape 0 = -2", "marked = 0", "copied 1 0 = -2", "copied 1 -1 = 0", "points 0 = MIN", "take 0 = -1", "laid 0 0 = MIN");
    answersAre("form 0 = -1", "form 401 = -1", "row 0 = 0", "row 99 = 0", "count 6 = 0");
  }

  @Says(words = "All memory is the reader's own")
  static void readersShareNothing() {
    full(3, true);
    SheetReader first = r;
    List<Integer> want = seen(0);
    full(16, false);
    SheetReader second = r;
    second.set(0, 9);
    second.blank(40, 40);
    second.corner(0, 7, 7);
    second.keep(0);
    second.keep(2);
    form(PLAIN);
    second.tick(0, 7);
    second.noise(200);
    r = new SheetReader();
    due("a new one is as at first", r.count(0) + r.count(8) + r.count(10), 24);
    due("a new one has no drawers", r.back(0) || r.back(1) || r.back(2), false);
    r = first;
    due("the first one is as it was", seen(0).equals(want), true);
    due("its drawer", first.back(0), true);
    due("W of it", first.count(0), 12);
    due("told", first.tick(0, 0), 2);
    due("its answers", first.laid(2, 11), 6);
  }

  @Says(words = "A call that is refused")
  static void anyNumbersAreTaken() {
    // whatever the numbers are, a call answers: none of them throws
    int[] numbers = {MIN, MIN + 1, -65536, -41, -2, -1, 0, 1, 2, 11, 12, 40, 41, 400, 65536, 1 << 30, MAX - 1, MAX};
    for (Method m : SheetReader.class.getDeclaredMethods()) {
      if (java.lang.reflect.Modifier.isPublic(m.getModifiers()) && m.getParameterCount() > 0) {
        for (int state = 0; state < 4; state++) askByAll(m, numbers, state);
      }
    }
  }

  /** All numbers for one argument, and for two beside each other; the others are small ones. */
  private static void askByAll(Method m, int[] numbers, int state) {
    int n = m.getParameterCount();
    for (int i = 0; i < n; i++) {
      begin(state);
      for (int one : numbers) {
        for (int two : numbers) {
          StringBuilder call = new StringBuilder(m.getName());
          for (int k = 0; k < n; k++) call.append(' ').append(k == i ? one : k == i + 1 ? two : 1);
          long answer = ask(call.toString());
          due(call + " answers", answer >= MIN && answer <= MAX, true);
          if (i + 1 == n) break;
        }
      }
    }
  }

  private static void begin(int state) {
    if (state == 0) r = new SheetReader();
    if (state == 1) full(3, true);
    if (state == 2) full(16, false);
    if (state == 3) printed("size 40 40; box 6 6;");
  }
}
