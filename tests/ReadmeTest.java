import java.io.IOException;
import java.lang.reflect.Method;
import java.lang.reflect.Modifier;
import java.nio.file.Files;
import java.nio.file.Path;
import java.util.ArrayList;
import java.util.List;
import java.util.Set;
import java.util.TreeSet;
import java.util.regex.Matcher;
import java.util.regex.Pattern;
import java.util.stream.Collectors;
import java.util.stream.Stream;
import javax.tools.ToolProvider;

/** What README.md says: its example, the calls, the settings, the tests. Runs from the project's folder. */
public final class ReadmeTest {
  private static int asked = 0;
  private static int wrong = 0;

  public static void main(String[] args) throws IOException, InterruptedException {
    String readme = Files.readString(Path.of("README.md"));
    example(block(readme, "java"), block(readme, "text"));
    calls(readme);
    settings(readme);
    tests(readme);
    System.out.println(asked + " things asked of README.md, " + wrong + " not so");
    if (wrong != 0) System.exit(1);
  }

  private static void ask(boolean holds, String what) {
    asked++;
    if (!holds) {
      wrong++;
      System.out.println("not so: " + what);
    }
  }

  private static String block(String readme, String kind) {
    Matcher found = Pattern.compile("```" + kind + "\n(.*?)```", Pattern.DOTALL).matcher(readme);
    return found.find() ? found.group(1) : "";
  }

  private static void example(String program, String want) throws IOException, InterruptedException {
    Path folder = Files.createTempDirectory("readme");
    Path source = folder.resolve("Example.java");
    Path printed = folder.resolve("printed");
    Files.writeString(source, program);
    String built = System.getProperty("java.class.path");
    int compiled = ToolProvider.getSystemJavaCompiler().run(null, null, null, "-Xlint:all", "-cp", built, "-d", folder.toString(), source.toString());
    ask(compiled == 0, "the example compiles");
    String java = Path.of(System.getProperty("java.home"), "bin", "java").toString();
    String path = folder + System.getProperty("path.separator") + built;
    Process run = new ProcessBuilder(java, "-cp", path, "Example").redirectErrorStream(true).redirectOutput(printed.toFile()).start();
    ask(run.waitFor() == 0, "the example ends well");
    String got = Files.readString(printed);
    ask(!want.isEmpty() && got.equals(want), "the example prints what stands below it, not:\n" + got);
    try (Stream<Path> files = Files.list(folder)) {
      for (Path file : files.collect(Collectors.toList())) Files.delete(file);
    }
    Files.delete(folder);
  }

  private static void calls(String readme) {
    Set<String> told = new TreeSet<>();
    Matcher row = Pattern.compile("(?m)^\\| ((?:`\\w+` )+)\\|").matcher(readme);
    while (row.find()) {
      for (String name : row.group(1).split(" ")) ask(told.add(name.replace("`", "")), name + " stands once in the table of calls");
    }
    Set<String> face = new TreeSet<>();
    for (Method m : SheetReader.class.getDeclaredMethods()) {
      if (Modifier.isPublic(m.getModifiers())) face.add(m.getName());
    }
    ask(told.equals(face), "the table of calls names them all and no other: " + told);
  }

  private static void settings(String readme) {
    Matcher row = Pattern.compile("(?m)^\\| (\\d+) \\| [A-Z]+ \\| (\\d+) to (\\d+) \\| (\\d+) \\|$").matcher(readme);
    SheetReader reader = new SheetReader();
    int rows = 0;
    while (row.find()) {
      int k = Integer.parseInt(row.group(1));
      int least = Integer.parseInt(row.group(2));
      int most = Integer.parseInt(row.group(3));
      ask(k == rows, "setting " + rows + " stands in its place");
      rows++;
      ask(reader.set(k, least) == Integer.parseInt(row.group(4)), "what setting " + k + " is at first");
      ask(reader.set(k, most) == least, "setting " + k + " can be " + least);
      ask(reader.set(k, least) == most, "setting " + k + " can be " + most);
      ask(reader.set(k, least - 1) == -1 && reader.set(k, most + 1) == -1, "setting " + k + " can't be out of its bounds");
    }
    ask(rows == 7, "the table of settings has 7 rows, not " + rows);
  }

  private static void tests(String readme) throws IOException {
    List<String> missing = new ArrayList<>();
    try (Stream<Path> files = Files.list(Path.of("tests"))) {
      for (Path file : files.collect(Collectors.toList())) {
        String name = file.getFileName().toString();
        if (name.endsWith(".java") && !readme.contains(name)) missing.add(name);
      }
    }
    ask(missing.isEmpty(), "each test is named: " + missing);
  }
}
