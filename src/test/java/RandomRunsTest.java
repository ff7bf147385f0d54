import java.util.Random;

/**
 * Random runs of calls, on the class and on the model: all answers must be the same. Every second run is a mild one, of
 * numbers by which most pieces can be poured and STRIPPED: so that plans end, orders matter, and slabs bear slabs.
 */
public final class RandomRunsTest {
  private static final int RUNS = 6000, CALLS = 120;
  private static final int[] WILD = {Integer.MIN_VALUE, Integer.MIN_VALUE + 1, -2, -1, 10, 40, 41, 51, 201, 1001, 2001,
      Integer.MAX_VALUE - 1, Integer.MAX_VALUE};

  private final Random random;
  private final int run;
  private final boolean mild;
  private final int most;
  private PourPlan x = new PourPlan();
  private Model m = new Model();

  private RandomRunsTest(int run) {
    this.run = run;
    this.random = new Random(run);
    this.mild = run % 2 == 1;
    this.most = run % 4 < 2 ? 5 : 10;
  }

  public static void main(String[] args) {
    Checks all = new Checks();
    for (int run = 0; run < RUNS; run++) {
      new RandomRunsTest(run).go(all);
    }
    all.end();
  }

  // Mostly a number of the range, now and then one at its edges or far outside.
  private int any(int from, int to) {
    int dice = random.nextInt(60);
    if (dice == 0) return WILD[random.nextInt(WILD.length)];
    if (dice == 1) return from - 1;
    if (dice == 2) return to + 1;
    if (dice == 3) return from;
    if (dice == 4) return to;
    return from + random.nextInt(to - from + 1);
  }

  private int among(int from, int to, int mildFrom, int mildTo) {
    return mild ? any(mildFrom, mildTo) : any(from, to);
  }

  private void go(Checks all) {
    all.begin("run " + run);
    if (mild || run % 5 != 0) {
      makePoints(all);
      for (int i = 2 + random.nextInt(most); i > 0; i--) {
        addPiece(all);
      }
    }
    for (int i = 0; i < CALLS; i++) {
      call(all, which());
    }
    lookAtAll(all);
  }

  private void makePoints(Checks all) {
    int degrees = 0;
    int hardness = 0;
    for (int i = random.nextInt(4); i >= 0; i--) {
      degrees += 1 + random.nextInt(mild ? 60 : 100);
      hardness += (mild ? 100 : 0) + random.nextInt(300);
      both(all, 7, degrees, Math.min(hardness, 1000), 0);
    }
    if (mild) both(all, 7, degrees + 1 + random.nextInt(90), Math.min(1000, hardness + 600), 0);
  }

  // What would end a run's riches comes more seldom: a full object, NOW far on, no POINTS.
  private int which() {
    int which = random.nextInt(23);
    boolean often = random.nextInt(mild ? 12 : 4) == 0;
    if (which == 0 && m.count(0) >= most && !often) return 10;
    if (which == 14 && !often) return mild ? 21 : 10;
    if (which == 8 && !often) return mild ? 13 : 7;
    if (mild && (which == 9 || which == 22)) return 11;
    return which;
  }

  private void addPiece(Checks all) {
    int kind = mild && random.nextInt(2) == 0 ? 0 : any(0, 3);
    int floor = any(0, random.nextInt(3) == 0 ? 5 : 2);
    int volume = among(1, random.nextInt(2) == 0 ? 60 : 200, 1, 60);
    int size = any(0, 2), faces = any(1, 9);
    all.due("piece(" + kind + ", " + floor + ", " + volume + ", " + size + ", " + faces + ")",
        x.piece(kind, floor, volume, size, faces), m.piece(kind, floor, volume, size, faces));
  }

  private void call(Checks all, int which) {
    int last = Math.max(0, m.count(0) - 1);
    int p = any(0, last), q = any(0, last), day = among(0, 39, 0, random.nextInt(2) == 0 ? 39 : 15);
    switch (which) {
      case 0 -> addPiece(all);
      case 1 -> both(all, 1, p, q, among(0, 9, 0, 3));
      case 2 -> both(all, 2, any(0, 2), among(0, 50, 9, 20), 0);
      case 3 -> both(all, 3, among(1, random.nextInt(2) == 0 ? 300 : 1000, 60, 200), 0, 0);
      case 4 -> both(all, 4, any(0, 1), among(0, 1000, 0, 600), 0);
      case 5 -> both(all, 5, day, among(-30, 50, 5, 40), 0);
      case 6 -> both(all, 6, among(0, 20, 0, 6), 0, 0);
      case 7 -> both(all, 7, any(1, 300), any(0, 1000), 0);
      case 9 -> both(all, 9, any(0, 400), 0, 0);
      case 11 -> both(all, 11, p, q, 0);
      case 14 -> both(all, 14, any(0, random.nextInt(3) == 0 ? 39 : 8), 0, 0);
      case 16 -> both(all, 16, p, any(0, 7), 0);
      case 17, 18 -> both(all, which, p, day, 0);
      case 19 -> both(all, 19, any(0, 2), day, 0);
      case 20 -> both(all, 20, day, 0, 0);
      case 21 -> both(all, 21, p, day, any(0, 1));
      case 22 -> both(all, 22, any(0, 6), 0, 0);
      default -> both(all, which, 0, 0, 0);
    }
  }

  private void both(Checks all, int which, int a, int b, int c) {
    switch (which) {
      case 1 -> all.due("ahead(" + a + ", " + b + ", " + c + ")", x.ahead(a, b, c), m.ahead(a, b, c));
      case 2 -> all.due("form(" + a + ", " + b + ")", x.form(a, b), m.form(a, b));
      case 3 -> all.due("gang(" + a + ")", x.gang(a), m.gang(a));
      case 4 -> all.due("level(" + a + ", " + b + ")", x.level(a, b), m.level(a, b));
      case 5 -> all.due("warm(" + a + ", " + b + ")", x.warm(a, b), m.warm(a, b));
      case 6 -> all.due("base(" + a + ")", x.base(a), m.base(a));
      case 7 -> all.due("point(" + a + ", " + b + ")", x.point(a, b), m.point(a, b));
      case 8 -> all.due("unpoint()", x.unpoint(), m.unpoint());
      case 9 -> all.due("table(" + a + ")", x.table(a), m.table(a));
      case 10 -> all.due("plan()", x.plan(), m.plan());
      case 11 -> all.due("order(" + a + ", " + b + ")", x.order(a, b), m.order(a, b));
      case 12 -> all.due("best()", x.best(), m.best());
      case 13 -> all.due("better()", x.better(), m.better());
      case 14 -> all.due("now(" + a + ")", x.now(a), m.now(a));
      case 15 -> all.due("bound()", x.bound(), m.bound());
      case 16 -> all.due("about(" + a + ", " + b + ")", x.about(a, b), m.about(a, b));
      case 17 -> all.due("hard(" + a + ", " + b + ")", x.hard(a, b), m.hard(a, b));
      case 18 -> all.due("why(" + a + ", " + b + ")", x.why(a, b), m.why(a, b));
      case 19 -> all.due("free(" + a + ", " + b + ")", x.free(a, b), m.free(a, b));
      case 20 -> all.due("poured(" + a + ")", x.poured(a), m.poured(a));
      case 21 -> all.due("borne(" + a + ", " + b + ", " + c + ")", x.borne(a, b, c), m.borne(a, b, c));
      case 22 -> all.due("count(" + a + ")", x.count(a), m.count(a));
      default -> throw new IllegalStateException();
    }
  }

  // On which some piece was poured, or one soon behind it.
  private int dayOfLoad() {
    int poured = m.about(random.nextInt(Math.max(1, m.count(0))), 5);
    return Math.max(0, poured) + random.nextInt(4);
  }

  /** With the calls ahead of it at most 512, as many as the document promises for one object. */
  private void lookAtAll(Checks all) {
    for (int what = 0; what < 7; what++) both(all, 22, what, 0, 0);
    for (int p = 0; p < m.count(0); p++) {
      for (int what = 5; what < 8; what++) both(all, 16, p, what, 0);
      for (int day = run % 7; day < 40; day += 7) {
        both(all, 17, p, day, 0);
        both(all, 18, p, day, 0);
      }
      for (int day = run % 9; day < 40; day += 9) {
        int loaded = mild ? dayOfLoad() : day;
        both(all, 21, p, loaded, 0);
        both(all, 21, p, loaded, 1);
      }
    }
    for (int day = run % 3; day < 40; day += 3) {
      both(all, 20, day, 0, 0);
      for (int size = 0; size < 3; size++) both(all, 19, size, day, 0);
    }
  }
}
