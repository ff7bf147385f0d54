import java.lang.reflect.Field;
import java.lang.reflect.Method;
import java.lang.reflect.Modifier;
import java.nio.file.Files;
import java.nio.file.Path;
import java.util.ArrayList;
import java.util.HashMap;
import java.util.HashSet;
import java.util.List;
import java.util.Map;
import java.util.Set;
import java.util.TreeSet;
import java.util.regex.Matcher;
import java.util.regex.Pattern;

/** The face of the class, and those rules of LANGUAGE.md that can be seen from its text. */
public final class LanguageTest {
  private static final Path SOURCE = Path.of("src/main/java/PourPlan.java");
  private static final String[] FACE = {
      "int piece(int, int, int, int, int)", "int ahead(int, int, int)", "int form(int, int)", "int gang(int)",
      "int level(int, int)", "int warm(int, int)", "int base(int)", "int point(int, int)", "int unpoint()",
      "int table(int)", "int plan()", "int order(int, int)", "int best()", "int better()", "int now(int)",
      "int bound()", "int about(int, int)", "int hard(int, int)", "int why(int, int)", "int free(int, int)",
      "int poured(int)", "long borne(int, int, int)", "int count(int)"};
  private static final Checks checks = new Checks();

  public static void main(String[] args) throws Exception {
    face();
    fields();
    inside();
    String code = withoutComments(Files.readString(SOURCE));
    words(code);
    methods(code);
    checks.end();
  }

  private static void holds(String what, boolean is) {
    checks.due(what, is ? 1 : 0, 1);
  }

  private static void face() {
    checks.begin("rule 1, methods");
    Set<String> found = new TreeSet<>();
    Set<String> names = new HashSet<>();
    for (Method m : PourPlan.class.getDeclaredMethods()) {
      if (Modifier.isPrivate(m.getModifiers())) continue;
      holds(m + " is public and no more", m.getModifiers() == Modifier.PUBLIC);
      StringBuilder s = new StringBuilder(m.getReturnType() + " " + m.getName() + "(");
      for (Class<?> c : m.getParameterTypes()) s.append(s.charAt(s.length() - 1) == '(' ? "" : ", ").append(c);
      found.add(s + ")");
      names.add(m.getName());
    }
    holds("the face is " + found, found.equals(new TreeSet<>(List.of(FACE))));
    for (Method m : PourPlan.class.getDeclaredMethods()) {
      holds("private " + m.getName(), !Modifier.isPrivate(m.getModifiers()) || !names.contains(m.getName()));
    }
    holds("public and final", PourPlan.class.getModifiers() == (Modifier.PUBLIC | Modifier.FINAL));
    holds("one constructor", PourPlan.class.getConstructors().length == 1
        && PourPlan.class.getDeclaredConstructors().length == 1
        && PourPlan.class.getConstructors()[0].getParameterCount() == 0);
  }

  private static void fields() throws Exception {
    checks.begin("rules 1 and 5, fields");
    Map<String, Long> constants = Map.of("NONE", -1L, "BAD", -2L, "STATE", -3L, "FULL", -4L, "NO", Long.MIN_VALUE);
    int open = 0;
    for (Field f : PourPlan.class.getDeclaredFields()) {
      int m = f.getModifiers();
      holds(f + " static, so final", !Modifier.isStatic(m) || Modifier.isFinal(m));
      if (Modifier.isPrivate(m)) continue;
      open++;
      holds(f + " is of the face", constants.containsKey(f.getName()) && Modifier.isPublic(m) && Modifier.isStatic(m));
      checks.due(f.getName(), f.getLong(null), constants.getOrDefault(f.getName(), 0L));
      holds(f + " has its type", f.getType() == (f.getName().equals("NO") ? long.class : int.class));
    }
    checks.due("constants", open, constants.size());
  }

  private static void inside() {
    checks.begin("rules 2 and 11, classes inside");
    Class<?>[] all = PourPlan.class.getDeclaredClasses();
    holds("few classes", all.length <= 11);
    for (Class<?> c : all) {
      holds(c + " static", Modifier.isStatic(c.getModifiers()));
      holds(c + " not open", !Modifier.isPublic(c.getModifiers()) && !Modifier.isProtected(c.getModifiers()));
      holds(c + " few fields", c.getDeclaredFields().length <= 20);
      for (Field f : c.getDeclaredFields()) {
        holds(f + " static, so final", !Modifier.isStatic(f.getModifiers()) || Modifier.isFinal(f.getModifiers()));
      }
    }
  }

  private static String withoutComments(String text) {
    return text.replaceAll("(?s)/\\*.*?\\*/", "").replaceAll("//[^\n]*", "");
  }

  private static void words(String code) {
    checks.begin("rules 4, 6 and 13, words");
    String[] ruledOut = {"throw", "throws", "try", "catch", "finally", "synchronized", "assert", "import", "package",
        "hashCode", "toString", "Thread", "Random", "Object", "Exception", "native", "volatile", "transient"};
    for (String word : ruledOut) holds(word, !Pattern.compile("\\b" + word + "\\b").matcher(code).find());
    for (String sign : new String[] {"->", "::", "Exact", "@"}) holds(sign, !code.contains(sign));
    Matcher library = Pattern.compile("\\b(System|Math|Arrays|Integer|Long)\\.(\\w+)").matcher(code);
    Set<String> known = Set.of("System.arraycopy", "Math.max", "Integer.MIN_VALUE", "Long.MIN_VALUE");
    while (library.find()) holds(library.group(), known.contains(library.group()));
  }

  /** Names are used once, or by methods of like depth, so that a name is enough to follow a call. */
  private static void methods(String code) {
    checks.begin("rules 8 and 11, methods");
    Map<String, Set<String>> calls = new HashMap<>();
    Pattern head = Pattern.compile("(?m)^( +)(?:public|private)(?: static)? \\w+(?:\\[\\])* (\\w+)\\(([^)]*)\\) \\{$");
    Matcher m = head.matcher(code);
    while (m.find()) {
      String name = m.group(2);
      String body = code.substring(m.end(), code.indexOf("\n" + m.group(1) + "}\n", m.end()));
      holds(name + " is short", body.lines().count() <= 60);
      holds(name + " has few parameters", m.group(3).split(",").length <= 7);
      Set<String> called = calls.computeIfAbsent(name, k -> new HashSet<>());
      Matcher c = Pattern.compile("\\b(\\w+)\\(").matcher(body);
      while (c.find()) called.add(c.group(1));
    }
    holds("methods are found", calls.size() > 40);
    for (String name : calls.keySet()) {
      int deep = depth(name, calls, new ArrayList<>());
      holds(name + " goes " + deep + " deep", deep <= 8);
    }
  }

  private static int depth(String name, Map<String, Set<String>> calls, List<String> open) {
    if (!calls.containsKey(name)) return 0;
    holds(name + " is no recursion in " + open, !open.contains(name));
    if (open.contains(name)) return 0;
    open.add(name);
    int most = 0;
    for (String called : calls.get(name)) most = Math.max(most, depth(called, calls, open));
    open.remove(name);
    return most + 1;
  }
}
