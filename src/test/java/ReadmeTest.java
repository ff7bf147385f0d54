import java.lang.reflect.Field;
import java.lang.reflect.Method;
import java.lang.reflect.Modifier;
import java.nio.file.Files;
import java.nio.file.Path;

/** README.md: its example runs as it says, and it tells every call and every constant of the face. */
public final class ReadmeTest {
  private static final Checks checks = new Checks();

  public static void main(String[] args) throws Exception {
    String readme = Files.readString(Path.of("README.md"));
    example();
    exampleIsTheReadmes(readme, Files.readString(Path.of("src/test/java/ReadmeTest.java")));
    faceIsTold(readme);
    checks.end();
  }

  private static void due(String call, long got, long want) {
    checks.due(call, got, want);
  }

  private static void example() {
    checks.begin("the example");
    PourPlan plan = new PourPlan();
    plan.point(100, 1000);
    int wall = plan.piece(1, 0, 40, 0, 4);
    due("wall", wall, 0);
    int slab = plan.piece(0, 0, 60, 2, 6);
    due("slab", slab, 1);
    int end = plan.plan();
    due("end", end, 5);
    int day = plan.about(slab, 5);
    due("day", day, 2);
    int hinders = plan.why(slab, 1);
    due("hinders", hinders, 2);
    plan.now(1);
    due("the wall stands", plan.about(wall, 5), 0);
    due("the slab does not", plan.about(slab, 5), PourPlan.NONE);
    plan.warm(1, -5);
    end = plan.plan();
    due("end", end, 6);
    due("the slab waits", plan.about(slab, 5), 3);
  }

  /** The lines of README's first Java block stand in example(), in their order. */
  private static void exampleIsTheReadmes(String readme, String test) {
    checks.begin("the example's lines");
    int begin = readme.indexOf("```java\n") + "```java\n".length();
    int lines = 0;
    int from = test.indexOf("void example()");
    for (String line : readme.substring(begin, readme.indexOf("```", begin)).split("\n")) {
      String code = line.replaceAll("//.*", "").strip();
      int at = test.indexOf("    " + code + "\n", from);
      due(code + " is found", at >= 0 ? 1 : 0, 1);
      from = Math.max(from, at + 1);
      lines++;
    }
    due("lines", lines, 10);
  }

  private static void faceIsTold(String readme) {
    checks.begin("the face");
    for (Method m : PourPlan.class.getDeclaredMethods()) {
      if (!Modifier.isPublic(m.getModifiers())) continue;
      int at = readme.indexOf("\n| `" + m.getName() + "(");
      due(m.getName() + " is told", at >= 0 ? 1 : 0, 1);
      if (at < 0) continue;
      String told = readme.substring(readme.indexOf("(", at) + 1, readme.indexOf(")", at));
      due("arguments of " + m.getName(), told.isEmpty() ? 0 : told.split(",").length, m.getParameterCount());
    }
    for (Field f : PourPlan.class.getFields()) {
      due(f.getName() + " is told", readme.contains("`" + f.getName() + "`") ? 1 : 0, 1);
    }
  }
}
