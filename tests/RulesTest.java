import java.io.IOException;
import java.lang.reflect.Array;
import java.lang.reflect.Constructor;
import java.lang.reflect.Field;
import java.lang.reflect.Method;
import java.lang.reflect.Modifier;
import java.nio.file.Files;
import java.nio.file.Path;
import java.util.ArrayList;
import java.util.Arrays;
import java.util.HashSet;
import java.util.IdentityHashMap;
import java.util.List;
import java.util.Set;
import java.util.TreeSet;
import java.util.regex.Matcher;
import java.util.regex.Pattern;

/** The public face, and those rules of LANGUAGE.md that a program can look for. Runs from the project's folder. */
public final class RulesTest {
  private static final Path SOURCE = Path.of("src/main/java/SheetReader.java");
  private static final String[] FACE = {
    "int feed(int, int, int, int, int)", "int form(int)", "int count(int)", "int question(int, int)", "int set(int, int)",
    "boolean blank(int, int)", "boolean row(int)", "int fill(int, int, int, int, int)", "int dot(int, int)", "int noise(int)",
    "int seed(int)", "int turn(int)", "int copy(int, int, int, int, int, int)", "int shift(int, int)", "int stretch()",
    "int clean()", "int smooth()", "boolean keep(int)", "boolean back(int)", "int blob(int, int)", "int mark(int)",
    "int marked()", "int shape(int)", "int map(int, int, int)", "int dark(int, int)", "int judged(int, int)", "int sheet(int)",
    "int rank(int, int)", "int apart(int)", "int steady(int, int)", "boolean corner(int, int, int)", "int tick(int, int)",
    "int print(int)", "int unlike()", "int up()", "int lay()", "int laid(int, int)", "int chosen(int, int)",
    "int copied(int, int)", "int telling(int)", "int points(int)", "int take(int)", "int level()",
  };

  private static int wrong = 0;

  public static void main(String[] args) throws IOException, ReflectiveOperationException {
    theFace();
    classesInside();
    String code = withoutComments(Files.readString(SOURCE));
    words(code);
    methods(code);
    room();
    System.out.println(wrong + " rules broken");
    if (wrong != 0) System.exit(1);
  }

  private static void ask(boolean holds, String what) {
    if (!holds) {
      wrong++;
      System.out.println("not so: " + what);
    }
  }

  private static void theFace() throws ReflectiveOperationException {
    Class<?> face = SheetReader.class;
    ask(Modifier.isPublic(face.getModifiers()) && Modifier.isFinal(face.getModifiers()), "the class is public and final");
    Set<String> found = new TreeSet<>();
    Set<String> names = new HashSet<>();
    for (Method m : face.getDeclaredMethods()) {
      if (Modifier.isPublic(m.getModifiers())) {
        StringBuilder told = new StringBuilder();
        for (Class<?> p : m.getParameterTypes()) told.append(told.length() > 0 ? ", " : "").append(p);
        found.add(m.getReturnType() + " " + m.getName() + "(" + told + ")");
        names.add(m.getName());
      }
    }
    ask(found.equals(new TreeSet<>(Arrays.asList(FACE))), "the public methods are the document's: " + found);
    List<Class<?>> all = new ArrayList<>(Arrays.asList(face.getDeclaredClasses()));
    all.add(face);
    for (Class<?> c : all) {
      for (Method m : c.getDeclaredMethods()) {
        boolean isFace = Modifier.isPublic(m.getModifiers()) && c == face;
        ask(isFace || !Modifier.isPrivate(m.getModifiers()) || !names.contains(m.getName()), "no private method is called " + m.getName());
        ask(m.getParameterCount() <= 7, m + " takes at most seven parameters");
      }
    }
    for (Method m : face.getDeclaredMethods()) {
      ask(Modifier.isPublic(m.getModifiers()) || Modifier.isPrivate(m.getModifiers()), m + " is public or private");
    }
    for (Field f : face.getDeclaredFields()) {
      ask(Modifier.isPrivate(f.getModifiers()) || f.getName().equals("NONE"), f + " is private");
    }
    ask(Modifier.isPublic(face.getField("NONE").getModifiers()) && face.getField("NONE").getInt(null) == -1, "NONE is public, -1");
    Constructor<?>[] made = face.getDeclaredConstructors();
    ask(made.length == 1 && Modifier.isPublic(made[0].getModifiers()) && made[0].getParameterCount() == 0, "one constructor");
  }

  private static void classesInside() {
    Class<?>[] inside = SheetReader.class.getDeclaredClasses();
    ask(inside.length <= 11, "at most twelve classes");
    List<Class<?>> all = new ArrayList<>(Arrays.asList(inside));
    all.add(SheetReader.class);
    for (Class<?> c : all) {
      int own = 0;
      for (Field f : c.getDeclaredFields()) {
        boolean isStatic = Modifier.isStatic(f.getModifiers());
        ask(!isStatic || Modifier.isFinal(f.getModifiers()), f + " is final, as it is static");
        own += isStatic ? 0 : 1;
      }
      ask(own <= 20, c + " has at most twenty fields, not " + own);
    }
    for (Class<?> c : inside) {
      ask(Modifier.isStatic(c.getModifiers()) && !Modifier.isPublic(c.getModifiers()) && !Modifier.isProtected(c.getModifiers()),
          c + " is static and not to be seen");
      ask(c.getDeclaredClasses().length == 0, c + " has no class inside");
    }
  }

  private static String withoutComments(String text) {
    return text.replaceAll("(?s)/\\*.*?\\*/", "").replaceAll("//[^\n]*", "");
  }

  private static void words(String code) {
    String[] none = {
      "throw", "throws", "try", "catch", "finally", "synchronized", "assert", "double", "float", "package", "protected", "native",
      "volatile", "transient", "Object", "Exception", "Random", "Thread", "equals", "hashCode", "toString", "Iterator", "clone",
    };
    for (String word : none) ask(!Pattern.compile("\\b" + word + "\\b").matcher(code).find(), "the word " + word + " is not used");
    ask(!code.contains("->") && !code.contains("::"), "no lambda, no method reference");
    ask(!code.contains("Exact("), "nothing whose name ends in Exact");
    ask(!Pattern.compile("\\bwhile\\s*\\(\\s*true|for\\s*\\(\\s*;\\s*;").matcher(code).find(), "no loop without an end");
    Matcher imports = Pattern.compile("import ([^;]+);").matcher(code);
    while (imports.find()) ask(imports.group(1).equals("java.util.Arrays"), "the import " + imports.group(1) + " is allowed");
    Matcher library = Pattern.compile("\\b(Arrays|Math|Integer|Long|System|String)\\.(\\w+)").matcher(code);
    Set<String> allowed = Set.of("Arrays.fill", "Math.abs", "Math.max", "Math.min", "Integer.bitCount", "Integer.MIN_VALUE", "System.arraycopy");
    while (library.find()) ask(allowed.contains(library.group()), library.group() + " is allowed");
    ask(code.chars().allMatch(c -> c < 128), "plain signs alone");
  }

  /** Methods start at a line that ends in " {" after a list of parameters, and end at the brace below their first sign. */
  private static void methods(String code) {
    String[] lines = code.split("\n", -1);
    Pattern start = Pattern.compile("( +)(?:(?:public|private|static) )*(?:[\\w\\[\\]]+ )?\\w+\\([^()]*\\) \\{");
    Pattern other = Pattern.compile(" *(if|for|while|switch|else|do|return)\\b.*");
    int found = 0;
    for (int i = 0; i < lines.length; i++) {
      Matcher m = start.matcher(lines[i]);
      if (!m.matches() || other.matcher(lines[i]).matches()) continue;
      found++;
      int end = i;
      while (end < lines.length && !lines[end].equals(m.group(1) + "}")) end++;
      ask(end < lines.length && end - i <= 60, "a method stays short: " + lines[i].trim());
      boolean isConstructor = lines[i].contains("public SheetReader()");
      for (int k = i; k < end; k++) {
        ask(isConstructor || !lines[k].contains("new "), "nothing is made but in the constructor: " + lines[k].trim());
      }
    }
    ask(found > 100, "methods are found: " + found);
  }

  /** What one object holds in all: the room of a run is 600,000 objects, 7.3 million fields and elements. */
  private static void room() throws ReflectiveOperationException {
    IdentityHashMap<Object, Boolean> seen = new IdentityHashMap<>();
    List<Object> open = new ArrayList<>();
    open.add(new SheetReader());
    long elements = 0;
    while (!open.isEmpty()) {
      Object o = open.remove(open.size() - 1);
      if (seen.put(o, true) != null) continue;
      if (o.getClass().isArray()) {
        elements += Array.getLength(o);
        for (int i = 0; i < Array.getLength(o) && !o.getClass().getComponentType().isPrimitive(); i++) {
          if (Array.get(o, i) != null) open.add(Array.get(o, i));
        }
        continue;
      }
      for (Field f : o.getClass().getDeclaredFields()) {
        if (Modifier.isStatic(f.getModifiers())) continue;
        elements++;
        f.setAccessible(true);
        if (!f.getType().isPrimitive() && f.get(o) != null) open.add(f.get(o));
      }
    }
    ask(seen.size() < 200 && elements < 30000, "a small room: " + seen.size() + " objects, " + elements + " elements");
  }
}
