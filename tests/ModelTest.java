import java.lang.reflect.Method;
import java.lang.reflect.Modifier;
import java.math.BigInteger;
import java.util.ArrayList;
import java.util.Arrays;
import java.util.Comparator;
import java.util.HashMap;
import java.util.HashSet;
import java.util.List;
import java.util.Map;
import java.util.Random;
import java.util.Set;
import java.util.TreeMap;
import java.util.regex.Matcher;
import java.util.regex.Pattern;

/** Long runs of drawn calls, each answer compared with that of a second, slow reader with exact fractions. */
public final class ModelTest {
  private static final int RUNS = 700;
  private static final int CALLS = 500;
  private static final int MIN = Integer.MIN_VALUE;

  private static final Map<String, Method> FAST = methodsOf(SheetReader.class);
  private static final Map<String, Method> SLOW = methodsOf(Slow.class);
  private static final TreeMap<String, Integer> asked = new TreeMap<>();

  private final Random random;
  private final int number;
  private final SheetReader fast = new SheetReader();
  private final Slow slow = new Slow();
  private final List<String> calls = new ArrayList<>();
  private int wrong = 0;

  private ModelTest(int number) {
    this.number = number;
    random = new Random(number);
  }

  public static void main(String[] args) {
    int wrongRuns = 0;
    for (int i = 0; i < RUNS && wrongRuns < 3; i++) {
      ModelTest run = new ModelTest(i);
      run.go();
      if (run.wrong > 0) {
        wrongRuns++;
      }
    }
    int all = 0;
    for (int n : asked.values()) all += n;
    System.out.println("answers compared: " + all + " of " + asked.size() + " methods, in " + RUNS + " runs; runs that differ: " + wrongRuns);
    if (asked.size() < 43) {
      System.out.println("some method was not called: " + asked.keySet());
    }
    if (wrongRuns != 0 || asked.size() < 43) System.exit(1);
  }

  private static Map<String, Method> methodsOf(Class<?> of) {
    Map<String, Method> found = new HashMap<>();
    for (Method m : of.getDeclaredMethods()) {
      if (Modifier.isPublic(m.getModifiers())) found.put(m.getName(), m);
    }
    return found;
  }

  private int call(String name, int... arguments) {
    calls.add(name + Arrays.toString(arguments));
    asked.merge(name, 1, Integer::sum);
    Object[] boxed = new Object[arguments.length];
    for (int i = 0; i < boxed.length; i++) boxed[i] = arguments[i];
    Object want;
    Object got;
    try {
      want = SLOW.get(name).invoke(slow, boxed);
    } catch (ReflectiveOperationException e) {
      throw new IllegalStateException("the slow reader failed at " + calls, e);
    }
    try {
      got = FAST.get(name).invoke(fast, boxed);
    } catch (ReflectiveOperationException e) {
      got = "nothing: " + e.getCause();
    }
    if (!want.equals(got)) {
      wrong++;
      if (wrong == 1) {
        System.out.println("run " + number + ": " + name + Arrays.toString(arguments) + " answered " + got + ", due is " + want);
        System.out.println("  behind " + calls.subList(Math.max(0, calls.size() - 12), calls.size()));
      }
    }
    return want instanceof Integer ? (Integer) want : 0;
  }

  // ---- drawing calls

  private void go() {
    boolean piling = random.nextInt(3) == 0;
    setUp();
    while (calls.size() < CALLS - 40 && wrong == 0) {
      int kind = random.nextInt(100);
      if (kind < 3 && !piling) setUp();
      else if (kind < (piling ? 30 : 14)) printSheet();
      else if (kind < 32) changeScan();
      else if (kind < 34) call("lay");
      else if (kind < 38) changeSetting();
      else if (kind < 39) tellRow();
      else ask(piling);
    }
  }

  private void setUp() {
    if (random.nextInt(3) == 0) call("blank", side(), side());
    for (int i = 0; i < 3 && random.nextInt(6) != 0; i++) {
      if (tellForm()) break;
    }
    printSheet();
  }

  private int side() {
    return random.nextInt(12) == 0 ? random.nextInt(60) - 10 : 8 + random.nextInt(33);
  }

  private int below(int most) {
    if (random.nextInt(25) == 0) return new int[] {-1, most, -2, MIN, Integer.MAX_VALUE, most + 1}[random.nextInt(6)];
    return random.nextInt(Math.max(1, most));
  }

  private boolean tellForm() {
    String text = drawForm();
    if (random.nextInt(4) == 0) text = spoil(text);
    if (text.length() > 400) text = text.substring(0, 400);
    tell(text, random.nextInt(8) == 0 ? ' ' : ';');
    return call("form", text.length()) >= 0;
  }

  private void tell(String text, char behind) {
    StringBuilder all = new StringBuilder(text);
    while (all.length() % 20 != 0) all.append(behind);
    for (int at = 0; at < all.length(); at += 20) {
      int[] five = new int[5];
      for (int i = 0; i < 20; i++) five[i / 4] = five[i / 4] << 8 | all.charAt(at + i);
      call("feed", five);
    }
  }

  private String drawForm() {
    int u = 4 + random.nextInt(37);
    int v = 4 + random.nextInt(37);
    int a = 1 + random.nextInt(Math.min(random.nextInt(4) == 0 ? 6 : 3, u));
    int b = 1 + random.nextInt(Math.min(random.nextInt(4) == 0 ? 6 : 3, v));
    StringBuilder text = new StringBuilder("size " + u + " " + v + ";box " + a + " " + b + ";");
    List<int[]> free = new ArrayList<>();
    for (int y = 0; y + b <= v; y += b) {
      for (int x = 0; x + a <= u; x += a) free.add(new int[] {x, y});
    }
    java.util.Collections.shuffle(free, random);
    int questions = random.nextInt(6) == 0 ? random.nextInt(14) : 1 + random.nextInt(4);
    int next = 0;
    for (int q = 0; q < questions && text.length() < 360; q++) {
      int boxes = random.nextInt(40) == 0 ? 7 : 1 + random.nextInt(random.nextInt(3) == 0 ? 6 : 3);
      if (next + boxes > free.size()) break;
      text.append(random.nextBoolean() ? "one " : "many ");
      for (int i = 0; i < boxes; i++) {
        text.append(i > 0 ? "," : "").append(free.get(next)[0]).append(' ').append(free.get(next)[1]);
        next++;
      }
      if (random.nextInt(4) != 0) {
        text.append(" key");
        int bits = 1 + random.nextInt((1 << boxes) - 1);
        for (int i = 0; i < boxes; i++) {
          if ((bits >> i & 1) == 1) text.append(' ').append((char) ('a' + i));
        }
      }
      if (random.nextInt(3) == 0) text.append(" worth ").append(random.nextInt(8));
      text.append(random.nextInt(3) == 0 ? " ;\n" : ";");
    }
    return text.toString();
  }

  private String spoil(String text) {
    StringBuilder all = new StringBuilder(text);
    for (int i = random.nextInt(2); i >= 0; i--) {
      int at = random.nextInt(all.length());
      switch (random.nextInt(5)) {
        case 0: all.deleteCharAt(at); break;
        case 1: all.insert(at, " 0149;,abgxonekywrth\n\t\u00e9".charAt(random.nextInt(22))); break;
        case 2: all.setCharAt(at, " 0149;,abgxonekywrth\n\t\u00e9".charAt(random.nextInt(22))); break;
        case 3: all.insert(at, new String[] {"one 0 0;", " key a", "worth 100", ",0 0", " 1000000000000 "}[random.nextInt(5)]); break;
        default: all.setLength(Math.max(1, at)); break;
      }
      if (all.length() == 0) all.append(';');
    }
    return all.toString();
  }

  private void printSheet() {
    if (random.nextInt(4) == 0 || (!cornersFit() && random.nextInt(12) != 0)) {
      for (int k = 0; k < 4; k++) {
        int reach = Math.max(1, Math.min(slow.w, slow.h) / (random.nextInt(5) == 0 ? 1 : 4));
        int x = 1 + random.nextInt(reach);
        int y = 1 + random.nextInt(reach);
        call("corner", k, k % 2 == 0 ? x : slow.w - 1 - x, k / 2 == 0 ? y : slow.h - 1 - y);
      }
    }
    for (int q = 0; q < slow.questions.size(); q++) {
      if (random.nextInt(3) != 0) {
        int boxes = slow.questions.get(q).places.size();
        int kind = random.nextInt(4);
        call("tick", q, kind == 0 ? slow.questions.get(q).key : kind == 1 ? random.nextInt(1 << boxes) : 1 << random.nextInt(Math.min(2, boxes)));
      }
    }
    call("print", 1 + random.nextInt(9));
    if (random.nextInt(2) == 0) call("noise", random.nextInt(random.nextInt(4) == 0 ? 500 : 60));
    for (int i = random.nextInt(4); i > 0; i--) touchBox();
    if (random.nextInt(3) != 0) call("lay");
    if (random.nextInt(6) == 0) {
      call("turn", random.nextInt(4));
      call("up");
    }
  }

  private boolean cornersFit() {
    for (int[] c : slow.corners) {
      if (c[0] < 1 || c[0] > slow.w - 2 || c[1] < 1 || c[1] > slow.h - 2) return false;
    }
    return true;
  }

  /** Inks or rubs some dots within the marks, so that boxes are partly dark. */
  private void touchBox() {
    if (slow.questions.isEmpty()) return;
    Question question = slow.questions.get(random.nextInt(slow.questions.size()));
    int[] place = question.places.get(random.nextInt(question.places.size()));
    Fr[] middle = slow.pointOf(2 * place[0] + 1, 2 * place[1] + 1);
    if (middle == null) return;
    call("fill", middle[0].nearest(), middle[1].nearest(), 1 + random.nextInt(2), 1 + random.nextInt(2), random.nextInt(10));
  }

  private void changeSetting() {
    int[] most = {9, 20, 60, 200, 200, 200, 20};
    int[] usual = {5, 2, 6, 6, 4, 3, 0};
    int k = random.nextInt(7);
    int v = random.nextInt(k < 3 ? 5 : 3) != 0 ? usual[k] : random.nextInt(3) == 0 ? random.nextInt(most[k] + 2) : random.nextInt(Math.min(most[k], 3 * usual[k] + 3) + 1);
    if (k < 3) call("set", k, usual[k]);
    call("set", random.nextInt(30) == 0 ? random.nextInt(9) - 1 : k, v);
  }

  private void tellRow() {
    StringBuilder digits = new StringBuilder();
    for (int x = 0; x < slow.w; x++) digits.append((char) ('0' + (random.nextInt(4) == 0 ? random.nextInt(10) : 0)));
    if (random.nextInt(6) == 0) digits.setCharAt(random.nextInt(digits.length()), ":/ a\u0080".charAt(random.nextInt(5)));
    if (random.nextInt(6) == 0) digits.setLength(random.nextInt(digits.length()));
    if (digits.length() > 0) tell(digits.toString(), '7');
    call("row", below(slow.h));
  }

  private void changeScan() {
    int w = slow.w;
    int h = slow.h;
    switch (random.nextInt(14)) {
      case 0: call("noise", below(501)); break;
      case 1: call("seed", random.nextInt()); break;
      case 2: call("turn", below(4)); break;
      case 3: call("copy", below(w), below(h), below(41), below(41), below(w), below(h)); break;
      case 4: call("shift", below(5) - 2, below(5) - 2); break;
      case 5: call("stretch"); break;
      case 6: call("clean"); break;
      case 7: call("smooth"); break;
      case 8: call("keep", below(3)); break;
      case 9: call("back", below(3)); break;
      case 10: call("fill", below(w), below(h), below(8), below(8), below(10)); break;
      case 11: call("shift", random.nextInt(90) - 45, random.nextInt(90) - 45); call("back", 0); break;
      case 12: if (random.nextInt(3) == 0) call("take", below(slow.pile.size())); break;
      default: touchBox(); break;
    }
  }

  private void ask(boolean aboutPile) {
    int q = below(slow.questions.size());
    int boxes = q >= 0 && q < slow.questions.size() ? slow.questions.get(q).places.size() : 1;
    int b = random.nextInt(6) == 0 ? -1 : below(boxes);
    switch (aboutPile && random.nextBoolean() ? 18 + random.nextInt(5) : random.nextInt(26)) {
      case 0: call("count", below(11)); break;
      case 1: call("question", q, random.nextInt(40) - 2); break;
      case 2: call("dot", below(slow.w), below(slow.h)); break;
      case 3: call("blob", random.nextInt(3) == 0 ? -1 : below(8), random.nextInt(3) == 0 ? 0 : below(7)); break;
      case 4: call("mark", below(4)); break;
      case 5: call("marked"); break;
      case 6: call("shape", below(3)); break;
      case 7: call("map", below(2 * slow.u + 1), below(2 * slow.v + 1), below(4)); break;
      case 8: call("dark", q, b); break;
      case 9: case 10: case 11: call("judged", q, below(5)); break;
      case 12: call("sheet", below(5)); break;
      case 13: call("rank", q, b); break;
      case 14: call("apart", below(3)); break;
      case 15: call("steady", q, below(2)); break;
      case 16: call("unlike"); break;
      case 17: call("up"); break;
      case 18: call("laid", below(slow.pile.size()), random.nextInt(3) == 0 ? below(4) : 10 + below(slow.questions.size())); break;
      case 19: call("chosen", q, b); break;
      case 20: call("copied", 1 + below(3), random.nextInt(3) == 0 ? -1 : below(random.nextInt(3) == 0 ? 60 : 4)); break;
      case 21: call("telling", q); break;
      case 22: call("points", below(4)); break;
      case 23: call("level"); break;
      case 24: call("corner", below(4), below(40), below(40)); break;
      default: call(random.nextBoolean() ? "tick" : "judged", q, below(1 << boxes)); break;
    }
  }

  // ---- the slow reader

  private record Fr(BigInteger over, BigInteger by) {
    static Fr of(long over, long by) {
      return new Fr(BigInteger.valueOf(over), BigInteger.valueOf(by));
    }

    Fr plus(Fr o) {
      return new Fr(over.multiply(o.by).add(o.over.multiply(by)), by.multiply(o.by));
    }

    Fr times(Fr o) {
      return new Fr(over.multiply(o.over), by.multiply(o.by));
    }

    Fr less(Fr o) {
      return plus(o.times(of(-1, 1)));
    }

    int compare(Fr o) {
      return over.multiply(o.by).compareTo(o.over.multiply(by));
    }

    int cut() {
      return over.divide(by).intValueExact();
    }

    int nearest() {
      BigInteger[] parts = over.multiply(BigInteger.TWO).add(by).divideAndRemainder(by.multiply(BigInteger.TWO));
      return parts[0].intValueExact() - (parts[1].signum() < 0 ? 1 : 0);
    }
  }

  private static final class Question {
    boolean many;
    final List<int[]> places = new ArrayList<>();
    int key;
    int worth = 1;
  }

  private static final class Fault extends RuntimeException {
    private static final long serialVersionUID = 1;
    final int answer;

    Fault(int why, int place) {
      super("fault " + why + " at " + place);
      answer = -1000 * why - place;
    }
  }

  private record Token(String text, int place) {
    boolean isNumber() {
      return text.matches("[0-9]+");
    }
  }

  /** A form's text, read from its tokens; a fault is thrown. */
  private static final class Text {
    final List<Token> tokens = new ArrayList<>();
    int at = 0;
    int u;
    int v;
    int a;
    int b;
    final List<Question> questions = new ArrayList<>();

    Text(String text) {
      Matcher m = Pattern.compile("[a-z]+|[0-9]+|[^ \n]", Pattern.DOTALL).matcher(text);
      while (m.find()) tokens.add(new Token(m.group(), m.start()));
      tokens.add(new Token("", text.length()));
      word("size");
      u = number(4, 40);
      v = number(4, 40);
      word(";");
      word("box");
      a = number(1, 6);
      b = number(1, 6);
      word(";");
      while (!here().text.isEmpty()) question();
    }

    Token here() {
      return tokens.get(at);
    }

    Fault fault(int why) {
      return new Fault(why, here().place);
    }

    void word(String text) {
      if (!here().text.equals(text)) throw fault(1);
      at++;
    }

    int value(int least, int most) {
      if (!here().isNumber()) throw fault(1);
      int value = new BigInteger(here().text).min(BigInteger.valueOf(999)).intValue();
      if (value < least || value > most) throw fault(2);
      return value;
    }

    int number(int least, int most) {
      int value = value(least, most);
      at++;
      return value;
    }

    void question() {
      if (!here().text.equals("one") && !here().text.equals("many")) throw fault(1);
      if (questions.size() == 12) throw fault(3);
      Question made = new Question();
      made.many = here().text.equals("many");
      questions.add(made);
      at++;
      place(made);
      while (here().text.equals(",")) {
        at++;
        place(made);
      }
      if (here().text.equals("key")) {
        at++;
        letter(made);
        while (here().text.matches("[a-f]")) letter(made);
      }
      if (here().text.equals("worth")) {
        at++;
        made.worth = number(0, 99);
      }
      word(";");
    }

    void place(Question made) {
      int x = value(0, u - a);
      if (made.places.size() == 6) throw fault(3);
      at++;
      int y = value(0, v - b);
      Set<Integer> taken = new HashSet<>();
      for (Question q : questions) {
        for (int[] p : q.places) {
          for (int i = 0; i < a * b; i++) taken.add((p[1] + i / a) * 100 + p[0] + i % a);
        }
      }
      for (int i = 0; i < a * b; i++) {
        if (taken.contains((y + i / a) * 100 + x + i % a)) throw fault(4);
      }
      made.places.add(new int[] {x, y});
      at++;
    }

    void letter(Question made) {
      if (!here().text.matches("[a-f]")) throw fault(1);
      int box = here().text.charAt(0) - 'a';
      if (box >= made.places.size() || (made.key & 1 << box) != 0) throw fault(5);
      made.key |= 1 << box;
      at++;
    }
  }

  private static final class Spot {
    int first;
    final List<int[]> dots = new ArrayList<>();

    long sum(int side) {
      long sum = 0;
      for (int[] d : dots) sum += d[side];
      return sum;
    }

    Fr middle(int side) {
      return Fr.of(sum(side), dots.size());
    }

    int extent(int side) {
      int least = 99;
      int greatest = -1;
      for (int[] d : dots) {
        least = Math.min(least, d[side]);
        greatest = Math.max(greatest, d[side]);
      }
      return greatest - least + 1;
    }
  }

  private record Box(int q, int b, int dark) { }

  private static final class Verdict {
    int answer;
    boolean doubtful;
    boolean doubled;
    int rubbed;
    int step;
    int points;

    boolean isLike(Verdict o) {
      return answer == o.answer && doubtful == o.doubtful && doubled == o.doubled;
    }
  }

  private static final class Sheet {
    final List<Verdict> verdicts = new ArrayList<>();

    int points() {
      int sum = 0;
      for (Verdict v : verdicts) sum += v.points;
      return sum;
    }
  }

  private static final class Slow {
    int w = 24;
    int h = 24;
    int[][] dots = new int[24][24];
    private String tape = "";
    private boolean told;
    int u;
    int v;
    private int a;
    private int b;
    List<Question> questions = new ArrayList<>();
    private int[] answersTold = new int[0];
    private int x = 1;
    private final int[] settings = {5, 2, 6, 6, 4, 3, 0};
    final int[][] corners = {{3, 3}, {20, 3}, {3, 20}, {20, 20}};
    private final int[][][] drawers = new int[3][][];
    final List<Sheet> pile = new ArrayList<>();

    public int feed(int a, int b, int c, int d, int e) {
      if (tape.length() + 20 > 480) return -1;
      StringBuilder more = new StringBuilder(tape);
      for (int four : new int[] {a, b, c, d, e}) {
        for (int i = 3; i >= 0; i--) more.append((char) (four >>> 8 * i & 255));
      }
      tape = more.toString();
      return tape.length();
    }

    public int form(int n) {
      if (n < 1 || n > 400 || n > tape.length()) return -1;
      String text = tape.substring(0, n);
      tape = "";
      Text read;
      try {
        read = new Text(text);
      } catch (Fault fault) {
        return fault.answer;
      }
      told = true;
      u = read.u;
      v = read.v;
      a = read.a;
      b = read.b;
      questions = read.questions;
      answersTold = new int[questions.size()];
      pile.clear();
      return questions.size();
    }

    public int count(int what) {
      int boxes = 0;
      for (Question q : questions) boxes += q.places.size();
      int ink = 0;
      int darkness = 0;
      for (int[] row : dots) {
        for (int d : row) {
          darkness += d;
          if (d >= settings[0]) ink++;
        }
      }
      int[] all = {w, h, questions.size(), boxes, u, v, tape.length(), x, pile.size(), ink, darkness};
      return what < 0 || what > 10 ? -1 : all[what];
    }

    private boolean has(int q) {
      return q >= 0 && q < questions.size();
    }

    private boolean has(int q, int b) {
      return has(q) && b >= 0 && b < questions.get(q).places.size();
    }

    public int question(int q, int what) {
      if (!has(q)) return -1;
      Question of = questions.get(q);
      if (what == 0) return of.many ? 2 : 1;
      if (what == 1) return of.places.size();
      if (what == 2) return of.key;
      if (what == 3) return of.worth;
      for (int i = 0; i < of.places.size(); i++) {
        if (what == 10 + i) return of.places.get(i)[0];
        if (what == 20 + i) return of.places.get(i)[1];
      }
      return -1;
    }

    public int set(int k, int v) {
      int[][] bounds = {{1, 9}, {1, 20}, {1, 60}, {1, 200}, {0, 200}, {0, 200}, {0, 20}};
      if (k < 0 || k > 6 || v < bounds[k][0] || v > bounds[k][1]) return -1;
      int was = settings[k];
      settings[k] = v;
      return was;
    }

    public boolean blank(int w, int h) {
      if (w < 8 || w > 40 || h < 8 || h > 40) return false;
      take(new int[h][w]);
      return true;
    }

    private void take(int[][] other) {
      dots = other;
      h = other.length;
      w = other[0].length;
    }

    private int becomes(int[][] other) {
      int n = 0;
      for (int y = 0; y < h; y++) {
        for (int x = 0; x < w; x++) n += dots[y][x] != other[y][x] ? 1 : 0;
      }
      take(other);
      return n;
    }

    private static int[][] like(int[][] dots) {
      int[][] made = new int[dots.length][];
      for (int y = 0; y < dots.length; y++) made[y] = dots[y].clone();
      return made;
    }

    private boolean isDot(int x, int y) {
      return x >= 0 && x < w && y >= 0 && y < h;
    }

    public boolean row(int y) {
      if (y < 0 || y >= h || tape.length() < w) return false;
      String digits = tape.substring(0, w);
      tape = "";
      if (!digits.matches("[0-9]+")) return false;
      for (int x = 0; x < w; x++) dots[y][x] = digits.charAt(x) - '0';
      return true;
    }

    public int fill(int x, int y, int w, int h, int v) {
      if (w < 1 || w > 40 || h < 1 || h > 40 || v < 0 || v > 9 || !isDot(x, y)) return -1;
      int n = 0;
      for (int j = 0; j < h; j++) {
        for (int i = 0; i < w; i++) {
          if (isDot(x + i, y + j)) {
            dots[y + j][x + i] = v;
            n++;
          }
        }
      }
      return n;
    }

    public int dot(int x, int y) {
      return isDot(x, y) ? dots[y][x] : -1;
    }

    private int draw(int m) {
      x = (int) ((25173L * x + 13849L) % 65536L);
      return x / 4 % m;
    }

    public int noise(int many) {
      if (many < 0 || many > 500) return -1;
      int n = 0;
      for (int i = 0; i < many; i++) {
        int atX = draw(w);
        int atY = draw(h);
        int was = dots[atY][atX];
        if (draw(3) == 0) {
          if (was > 0) dots[atY][atX]--;
        } else if (was < 9) {
          dots[atY][atX]++;
        }
        if (dots[atY][atX] != was) n++;
      }
      return n;
    }

    public int seed(int x) {
      int was = this.x;
      this.x = (int) (((x % 65536L) + 65536L) % 65536L);
      return was;
    }

    private static int[][] turned(int[][] dots, int k) {
      int[][] now = dots;
      for (int i = 0; i < k; i++) {
        int high = now.length;
        int wide = now[0].length;
        int[][] next = new int[wide][high];
        for (int y = 0; y < high; y++) {
          for (int x = 0; x < wide; x++) next[x][high - 1 - y] = now[y][x];
        }
        now = next;
      }
      return now;
    }

    public int turn(int k) {
      if (k < 0 || k > 3) return -1;
      take(turned(dots, k));
      return w;
    }

    public int copy(int x, int y, int w, int h, int u, int v) {
      if (w < 1 || w > 40 || h < 1 || h > 40 || !isDot(x, y) || !isDot(u, v)) return -1;
      int[][] next = like(dots);
      for (int j = 0; j < h; j++) {
        for (int i = 0; i < w; i++) {
          if (isDot(x + i, y + j) && isDot(u + i, v + j)) next[v + j][u + i] = dots[y + j][x + i];
        }
      }
      return becomes(next);
    }

    public int shift(int u, int v) {
      if (u < -40 || u > 40 || v < -40 || v > 40) return -1;
      int[][] next = new int[h][w];
      for (int y = 0; y < h; y++) {
        for (int x = 0; x < w; x++) {
          if (isDot(x + u, y + v)) next[y + v][x + u] = dots[y][x];
        }
      }
      return becomes(next);
    }

    public int stretch() {
      int l = 9;
      int g = 0;
      for (int[] row : dots) {
        l = Math.min(l, Arrays.stream(row).min().getAsInt());
        g = Math.max(g, Arrays.stream(row).max().getAsInt());
      }
      if (l == g) return 0;
      int[][] next = like(dots);
      for (int[] row : next) {
        for (int x = 0; x < w; x++) row[x] = Fr.of((row[x] - l) * 9L, g - l).cut();
      }
      return becomes(next);
    }

    /** All that hangs together, of any size, by first dot: each dot takes the least number around until none changes. */
    private List<Spot> spots() {
      int[][] label = new int[h][w];
      for (int y = 0; y < h; y++) {
        for (int x = 0; x < w; x++) label[y][x] = dots[y][x] >= settings[0] ? y * w + x : -1;
      }
      boolean changed = true;
      while (changed) {
        changed = false;
        for (int i = 0; i < 2 * w * h; i++) {
          int at = i < w * h ? i : 2 * w * h - 1 - i;
          int x = at % w;
          int y = at / w;
          int[][] beside = {{x - 1, y}, {x + 1, y}, {x, y - 1}, {x, y + 1}};
          for (int[] o : beside) {
            if (isDot(o[0], o[1]) && label[o[1]][o[0]] >= 0 && label[o[1]][o[0]] < label[y][x]) {
              label[y][x] = label[o[1]][o[0]];
              changed = true;
            }
          }
        }
      }
      TreeMap<Integer, Spot> found = new TreeMap<>();
      for (int y = 0; y < h; y++) {
        for (int x = 0; x < w; x++) {
          if (label[y][x] >= 0) found.computeIfAbsent(label[y][x], first -> new Spot()).dots.add(new int[] {x, y});
        }
      }
      return new ArrayList<>(found.values());
    }

    private List<Spot> blobs() {
      List<Spot> found = spots();
      found.removeIf(s -> s.dots.size() < settings[1]);
      return found;
    }

    public int clean() {
      int n = 0;
      for (Spot s : spots()) {
        if (s.dots.size() < settings[1]) {
          for (int[] d : s.dots) dots[d[1]][d[0]] = 0;
          n += s.dots.size();
        }
      }
      return n;
    }

    public int smooth() {
      int[][] next = new int[h][w];
      for (int y = 0; y < h; y++) {
        for (int x = 0; x < w; x++) {
          List<Integer> round = new ArrayList<>();
          for (int i = 0; i < 9; i++) {
            if (isDot(x - 1 + i % 3, y - 1 + i / 3)) round.add(dots[y - 1 + i / 3][x - 1 + i % 3]);
          }
          round.sort(null);
          next[y][x] = round.get((round.size() - 1) / 2);
        }
      }
      return becomes(next);
    }

    public boolean keep(int i) {
      if (i < 0 || i > 2) return false;
      drawers[i] = like(dots);
      return true;
    }

    public boolean back(int i) {
      if (i < 0 || i > 2 || drawers[i] == null) return false;
      take(like(drawers[i]));
      return true;
    }

    public int blob(int b, int what) {
      List<Spot> blobs = blobs();
      if (b == -1 && what == 0) return blobs.size();
      if (b < 0 || b >= blobs.size() || what < 0 || what > 6) return -1;
      Spot s = blobs.get(b);
      int[] all = {s.dots.size(), (int) s.sum(0), (int) s.sum(1), s.dots.get(0)[0], s.dots.get(0)[1], s.extent(0), s.extent(1)};
      return all[what];
    }

    private int markOf(List<Spot> blobs, int k) {
      Fr cornerX = Fr.of(k == 0 || k == 2 ? 0 : w - 1, 1);
      Fr cornerY = Fr.of(k < 2 ? 0 : h - 1, 1);
      int best = -2;
      Fr least = null;
      for (int i = 0; i < blobs.size(); i++) {
        if (blobs.get(i).dots.size() < settings[2]) continue;
        Fr dx = blobs.get(i).middle(0).less(cornerX);
        Fr dy = blobs.get(i).middle(1).less(cornerY);
        Fr far = dx.times(dx).plus(dy.times(dy));
        if (least == null || far.compare(least) < 0) {
          best = i;
          least = far;
        }
      }
      return best;
    }

    public int mark(int k) {
      return k < 0 || k > 3 ? -1 : markOf(blobs(), k);
    }

    /** The middles of the four marks, x and y each; null if the scan is not marked. */
    private Fr[][] middles() {
      List<Spot> blobs = blobs();
      Set<Integer> taken = new HashSet<>();
      Fr[][] found = new Fr[4][];
      for (int k = 0; k < 4; k++) {
        int m = markOf(blobs, k);
        if (m < 0 || !taken.add(m)) return null;
        found[k] = new Fr[] {blobs.get(m).middle(0), blobs.get(m).middle(1)};
      }
      return found;
    }

    public int marked() {
      return middles() == null ? 0 : 1;
    }

    private static Fr cross(Fr ax, Fr ay, Fr bx, Fr by) {
      return ax.times(by).less(bx.times(ay));
    }

    public int shape(int what) {
      if (what < 0 || what > 2) return -1;
      Fr[][] m = middles();
      if (m == null) return -2;
      if (what == 2) {
        int way = m[1][1].compare(m[0][1]);
        return way == 0 ? 0 : way > 0 ? 1 : 2;
      }
      Fr[][] round = {m[0], m[1], m[3], m[2], m[0], m[1]};
      Set<Integer> ways = new HashSet<>();
      Fr twice = Fr.of(0, 1);
      for (int i = 0; i < 4; i++) {
        Fr[] p = round[i];
        Fr[] q = round[i + 1];
        Fr[] r = round[i + 2];
        ways.add(cross(q[0].less(p[0]), q[1].less(p[1]), r[0].less(q[0]), r[1].less(q[1])).over().signum());
        twice = twice.plus(cross(p[0], p[1], q[0], q[1]));
      }
      if (what == 0) return ways.size() == 1 && !ways.contains(0) ? 1 : 0;
      return Math.abs(twice.times(Fr.of(1, 2)).cut());
    }

    private Fr[] mapped(Fr[][] m, int i, int j) {
      Fr p = Fr.of(i, 2);
      Fr q = Fr.of(j, 2);
      Fr whole = Fr.of(u, 1);
      Fr down = Fr.of(v, 1);
      Fr[] weights = {whole.less(p).times(down.less(q)), p.times(down.less(q)), whole.less(p).times(q), p.times(q)};
      Fr[] at = new Fr[2];
      for (int side = 0; side < 2; side++) {
        Fr sum = Fr.of(0, 1);
        for (int k = 0; k < 4; k++) sum = sum.plus(m[k][side].times(weights[k]));
        at[side] = sum.times(Fr.of(1, (long) u * v));
      }
      return at;
    }

    /** Where a point of the form lies on the scan; null if none. */
    Fr[] pointOf(int i, int j) {
      Fr[][] m = middles();
      return m == null || !told ? null : mapped(m, i, j);
    }

    public int map(int i, int j, int what) {
      if (!told || i < 0 || i > 2 * u || j < 0 || j > 2 * v || what < 0 || what > 3) return -1;
      Fr[] at = pointOf(i, j);
      if (at == null) return -2;
      return what < 2 ? at[what].nearest() : at[what - 2].times(Fr.of(100, 1)).cut();
    }

    /** How dark each box is, by questions; null if the scan is not marked. */
    private List<List<Integer>> darks() {
      Fr[][] m = middles();
      if (m == null) return null;
      List<List<Integer>> all = new ArrayList<>();
      for (Question q : questions) {
        List<Integer> row = new ArrayList<>();
        for (int[] p : q.places) {
          int sum = 0;
          for (int i = 0; i < a * b; i++) {
            Fr[] at = mapped(m, 2 * (p[0] + i % a) + 1, 2 * (p[1] + i / a) + 1);
            sum += Math.max(0, dot(at[0].nearest(), at[1].nearest()));
          }
          row.add(sum);
        }
        all.add(row);
      }
      return all;
    }

    private static int paper(List<List<Integer>> darks) {
      int least = Integer.MAX_VALUE;
      for (List<Integer> row : darks) {
        for (int d : row) least = Math.min(least, d);
      }
      return least;
    }

    public int dark(int q, int b) {
      if (!has(q) || (b != -1 && !has(q, b))) return -1;
      List<List<Integer>> darks = darks();
      if (darks == null) return -2;
      return b == -1 ? paper(darks) : darks.get(q).get(b);
    }

    private Verdict verdict(List<List<Integer>> darks, int q, int margin) {
      List<Box> order = new ArrayList<>();
      for (int i = 0; i < darks.get(q).size(); i++) order.add(new Box(q, i, darks.get(q).get(i)));
      order.sort(Comparator.comparing(box -> -box.dark()));
      int paper = paper(darks);
      List<Integer> steps = new ArrayList<>();
      for (int i = 0; i < order.size(); i++) {
        steps.add(order.get(i).dark() - (i + 1 < order.size() ? order.get(i + 1).dark() : paper));
      }
      Verdict made = new Verdict();
      made.step = java.util.Collections.max(steps);
      Set<Integer> ticked = new HashSet<>();
      if (made.step >= margin) {
        for (int i = 0; i <= steps.indexOf(made.step); i++) ticked.add(order.get(i).b());
      } else {
        made.doubtful = made.step * 2 >= margin;
      }
      if (!questions.get(q).many && ticked.size() > 1) {
        if (order.get(0).dark() >= order.get(1).dark() + settings[4]) {
          for (int i : ticked) {
            if (i != order.get(0).b()) made.rubbed |= 1 << i;
          }
          ticked.removeIf(i -> i != order.get(0).b());
        } else {
          made.doubled = true;
        }
      }
      for (Box box : order) {
        if (ticked.contains(box.b())) made.answer |= 1 << box.b();
        else if (box.dark() >= paper + settings[5]) made.rubbed |= 1 << box.b();
      }
      Question of = questions.get(q);
      if (of.key != 0 && !made.doubtful && !made.doubled && made.answer != 0) {
        made.points = made.answer == of.key ? of.worth : -settings[6];
      }
      return made;
    }

    private Sheet read() {
      List<List<Integer>> darks = darks();
      if (darks == null) return null;
      Sheet made = new Sheet();
      for (int q = 0; q < questions.size(); q++) made.verdicts.add(verdict(darks, q, settings[3]));
      return made;
    }

    public int judged(int q, int what) {
      if (!has(q) || what < 0 || what > 4) return MIN;
      Sheet sheet = read();
      if (sheet == null) return -1000;
      Verdict of = sheet.verdicts.get(q);
      return new int[] {of.answer, of.doubtful ? 1 : of.doubled ? 2 : 0, of.rubbed, of.step, of.points}[what];
    }

    public int sheet(int what) {
      if (!told || what < 0 || what > 4) return MIN;
      Sheet sheet = read();
      if (sheet == null) return -1000000;
      int[] all = new int[5];
      all[0] = sheet.points();
      for (Verdict of : sheet.verdicts) {
        if (of.doubtful) all[1]++;
        else if (of.doubled) all[2]++;
        else if (of.answer == 0) all[3]++;
        all[4] += Integer.bitCount(of.rubbed);
      }
      return all[what];
    }

    private List<Box> boxes(List<List<Integer>> darks) {
      List<Box> all = new ArrayList<>();
      for (int q = 0; q < darks.size(); q++) {
        for (int i = 0; i < darks.get(q).size(); i++) all.add(new Box(q, i, darks.get(q).get(i)));
      }
      all.sort(Comparator.comparing(box -> -box.dark()));
      return all;
    }

    public int rank(int q, int b) {
      if (!has(q, b)) return -1;
      List<List<Integer>> darks = darks();
      if (darks == null) return -2;
      int place = 1;
      for (Box box : boxes(darks)) place += box.dark() > darks.get(q).get(b) ? 1 : 0;
      return place;
    }

    public int apart(int what) {
      if (!told || what < 0 || what > 2) return -1;
      List<List<Integer>> darks = darks();
      if (darks == null) return -2;
      List<Box> order = boxes(darks);
      int step = 0;
      int ahead = 0;
      for (int i = 1; i < order.size(); i++) {
        if (order.get(i - 1).dark() - order.get(i).dark() > step) {
          step = order.get(i - 1).dark() - order.get(i).dark();
          ahead = i;
        }
      }
      int others = 0;
      for (int i = 0; i < order.size(); i++) {
        Verdict of = verdict(darks, order.get(i).q(), settings[3]);
        boolean ticked = (of.answer & 1 << order.get(i).b()) != 0;
        if (ticked && i >= ahead || !ticked && i < ahead) others++;
      }
      return new int[] {step, ahead, others}[what];
    }

    public int steady(int q, int what) {
      if (!has(q) || what < 0 || what > 1) return -1;
      List<List<Integer>> darks = darks();
      if (darks == null) return -2;
      Verdict now = verdict(darks, q, settings[3]);
      int margin = settings[3];
      int way = what == 0 ? -1 : 1;
      while (margin + way >= 1 && margin + way <= 200 && verdict(darks, q, margin + way).isLike(now)) margin += way;
      return margin;
    }

    public boolean corner(int k, int x, int y) {
      if (k < 0 || k > 3 || x < 0 || x > 39 || y < 0 || y > 39) return false;
      corners[k] = new int[] {x, y};
      return true;
    }

    public int tick(int q, int bits) {
      if (!has(q) || bits < 0 || bits >= Math.pow(2, questions.get(q).places.size())) return -1;
      int was = answersTold[q];
      answersTold[q] = bits;
      return was;
    }

    public int print(int v) {
      if (!told || v < 1 || v > 9) return -1;
      Fr[][] m = new Fr[4][];
      for (int k = 0; k < 4; k++) {
        int[] c = corners[k];
        if (c[0] < 1 || c[0] > w - 2 || c[1] < 1 || c[1] > h - 2) return -2;
        m[k] = new Fr[] {Fr.of(c[0], 1), Fr.of(c[1], 1)};
      }
      take(new int[h][w]);
      for (int[] c : corners) fill(c[0] - 1, c[1] - 1, 3, 3, 9);
      for (int q = 0; q < questions.size(); q++) {
        for (int i = 0; i < questions.get(q).places.size(); i++) {
          if ((answersTold[q] & 1 << i) == 0) continue;
          int[] p = questions.get(q).places.get(i);
          for (int y = p[1]; y < p[1] + b; y++) {
            for (int x = p[0]; x < p[0] + a; x++) {
              Fr[] at = mapped(m, 2 * x + 1, 2 * y + 1);
              if (isDot(at[0].nearest(), at[1].nearest())) dots[at[1].nearest()][at[0].nearest()] = v;
            }
          }
        }
      }
      int n = 0;
      for (int[] row : dots) {
        for (int d : row) n += d != 0 ? 1 : 0;
      }
      return n;
    }

    public int unlike() {
      if (!told) return -1;
      Sheet sheet = read();
      if (sheet == null) return -2;
      int n = 0;
      for (int q = 0; q < questions.size(); q++) n += sheet.verdicts.get(q).answer != answersTold[q] ? 1 : 0;
      return n;
    }

    public int up() {
      if (!told) return -1;
      int[][] was = dots;
      int best = -2;
      int most = 0;
      for (int k = 0; k < 4; k++) {
        take(turned(was, k));
        Sheet sheet = read();
        if (sheet != null && (best == -2 || sheet.points() > most)) {
          best = k;
          most = sheet.points();
        }
      }
      take(was);
      return best;
    }

    public int lay() {
      if (!told) return -1;
      Sheet sheet = read();
      if (sheet == null) return -2;
      if (pile.size() >= 16) return -3;
      pile.add(sheet);
      return pile.size() - 1;
    }

    public int laid(int s, int what) {
      if (s < 0 || s >= pile.size()) return MIN;
      Sheet sheet = pile.get(s);
      int doubtful = 0;
      int doubled = 0;
      for (int q = 0; q < questions.size(); q++) {
        if (sheet.verdicts.get(q).doubtful) doubtful += 1 << q;
        if (sheet.verdicts.get(q).doubled) doubled += 1 << q;
      }
      int place = 1;
      for (Sheet o : pile) place += o.points() > sheet.points() ? 1 : 0;
      if (what >= 0 && what <= 3) return new int[] {sheet.points(), doubtful, doubled, place}[what];
      return what >= 10 && has(what - 10) ? sheet.verdicts.get(what - 10).answer : MIN;
    }

    private boolean right(Sheet sheet, int q) {
      Verdict of = sheet.verdicts.get(q);
      int key = questions.get(q).key;
      return key != 0 && !of.doubtful && !of.doubled && of.answer == key;
    }

    public int chosen(int q, int b) {
      if (!has(q) || (b != -1 && !has(q, b))) return -1;
      int n = 0;
      for (Sheet s : pile) {
        if (b == -1 ? right(s, q) : (s.verdicts.get(q).answer & 1 << b) != 0) n++;
      }
      return n;
    }

    public int copied(int n, int k) {
      if (n < 1 || n > 12 || k < -1) return -1;
      List<Integer> twos = new ArrayList<>();
      for (int s = 0; s < pile.size(); s++) {
        for (int t = s + 1; t < pile.size(); t++) {
          int same = 0;
          for (int q = 0; q < questions.size(); q++) {
            int one = pile.get(s).verdicts.get(q).answer;
            int other = pile.get(t).verdicts.get(q).answer;
            int key = questions.get(q).key;
            if (key != 0 && one == other && one != key && one != 0) same++;
          }
          if (same >= n) twos.add(100 * s + t);
        }
      }
      if (k == -1) return twos.size();
      return k < twos.size() ? twos.get(k) : -2;
    }

    public int telling(int q) {
      if (!has(q)) return MIN;
      List<Sheet> order = new ArrayList<>(pile);
      order.sort(Comparator.comparing(s -> -s.points()));
      int half = order.size() / 2;
      int n = 0;
      for (Sheet s : order.subList(0, half)) n += right(s, q) ? 1 : 0;
      for (Sheet s : order.subList(order.size() - half, order.size())) n -= right(s, q) ? 1 : 0;
      return n;
    }

    public int points(int what) {
      if (pile.isEmpty() || what < 0 || what > 3) return MIN;
      int[] all = pile.stream().mapToInt(Sheet::points).sorted().toArray();
      int sum = Arrays.stream(all).sum();
      return new int[] {sum, all[all.length - 1], all[0], all[(all.length - 1) / 2]}[what];
    }

    public int take(int s) {
      if (s < 0 || s >= pile.size()) return -1;
      pile.remove(s);
      return pile.size();
    }

    public int level() {
      int best = 1;
      Fr most = Fr.of(0, 1);
      for (int t = 1; t <= 9; t++) {
        long[] n = new long[2];
        long[] s = new long[2];
        for (int[] row : dots) {
          for (int d : row) {
            n[d >= t ? 1 : 0]++;
            s[d >= t ? 1 : 0] += d;
          }
        }
        if (n[0] == 0 || n[1] == 0) continue;
        Fr apart = Fr.of(s[1] * n[0] - s[0] * n[1], 1);
        Fr value = apart.times(apart).times(Fr.of(1, n[0] * n[1]));
        if (value.compare(most) > 0) {
          best = t;
          most = value;
        }
      }
      return best;
    }
  }
}
