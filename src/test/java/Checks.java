/** Counts and prints the calls whose answer is not the one that is due. */
final class Checks {
  private int made = 0;
  private int wrong = 0;
  private String part = "";

  void begin(String name) {
    part = name;
  }

  void due(String call, long got, long want) {
    made++;
    if (got != want) {
      wrong++;
      System.out.println(part + ": " + call + " answered " + got + ", due is " + want);
    }
  }

  void end() {
    System.out.println(made + " answers, " + wrong + " not as due");
    if (wrong != 0 || made == 0) {
      System.exit(1);
    }
  }
}
