import java.io.IOException;
import java.nio.file.Files;
import java.nio.file.Path;
import java.util.ArrayList;
import java.util.List;
import java.util.TreeMap;
import java.util.regex.Matcher;
import java.util.regex.Pattern;
import java.util.stream.Collectors;
import java.util.stream.Stream;

/**
 * Looks whether the tests by sentences leave out a promise, or a reason for which a call is refused.
 * With the argument "show" it prints the document without what some test says, to be read by eye.
 */
public final class EdgesCovered {
  /** What a refused call answers, a colon, and the reasons up to the end of the clause. */
  private static final Pattern REFUSED = Pattern.compile("(NONE|-\\d+|Integer\\.MIN_VALUE|false): ([^;.]*)");
  private static final TreeMap<Integer, List<String>> quoted = new TreeMap<>();
  private static int wrong = 0;

  public static void main(String[] args) throws IOException {
    String document = Sentences.inOneLine(Files.readString(Path.of("../shared/DOC.md")));
    try (Stream<Path> files = Files.list(Path.of("tests"))) {
      for (Path file : files.filter(f -> f.toString().endsWith("Edges.java")).collect(Collectors.toList())) readQuotes(Files.readString(file));
    }
    int reasons = 0;
    for (int promise = 0; promise <= 44; promise++) {
      String section = Sentences.sectionOf(document, promise);
      boolean[] said = said(section, quoted.getOrDefault(promise, List.of()));
      ask(quoted.containsKey(promise), "some test says a sentence of promise " + promise);
      if (promise > 0) reasons += lookForReasons(promise, section, said);
      if (args.length > 0) System.out.println(promise + ": " + withoutSaid(section, said));
    }
    ask(reasons > 40, "reasons are found: " + reasons);
    System.out.println(reasons + " clauses of refused calls, " + wrong + " not so");
    if (wrong != 0) System.exit(1);
  }

  private static void ask(boolean holds, String what) {
    if (!holds) {
      wrong++;
      System.out.println("not so: " + what);
    }
  }

  private static void readQuotes(String source) {
    Matcher says = Pattern.compile("@Says\\((.*?)\\)\\s*static void", Pattern.DOTALL).matcher(source);
    while (says.find()) {
      Matcher number = Pattern.compile("^promise = (\\d+)").matcher(says.group(1));
      int promise = number.find() ? Integer.parseInt(number.group(1)) : 0;
      Matcher words = Pattern.compile("\"([^\"]*)\"").matcher(says.group(1));
      while (words.find()) quoted.computeIfAbsent(promise, p -> new ArrayList<>()).add(words.group(1));
    }
  }

  /** Which signs of a section stand in what some test says. */
  private static boolean[] said(String section, List<String> quotes) {
    boolean[] said = new boolean[section.length()];
    for (String words : quotes) {
      for (int at = section.indexOf(words); at >= 0; at = section.indexOf(words, at + 1)) {
        for (int i = 0; i < words.length(); i++) said[at + i] = true;
      }
    }
    return said;
  }

  private static int lookForReasons(int promise, String section, boolean[] said) {
    int found = 0;
    Matcher clause = REFUSED.matcher(section);
    while (clause.find()) {
      found++;
      boolean all = true;
      for (int i = clause.start(2); i < clause.end(2); i++) {
        all &= said[i] || !Character.isLetterOrDigit(section.charAt(i));
      }
      ask(all, "promise " + promise + " has a test of its own for: " + clause.group());
    }
    return found;
  }

  private static String withoutSaid(String section, boolean[] said) {
    StringBuilder left = new StringBuilder();
    for (int i = 0; i < section.length(); i++) {
      if (!said[i]) left.append(section.charAt(i));
      else if (left.length() > 0 && left.charAt(left.length() - 1) != '_') left.append('_');
    }
    return left.toString();
  }
}
