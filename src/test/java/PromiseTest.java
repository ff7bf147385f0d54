/** Each promise by itself, with answers reckoned by hand from the document, but for betterTenTimes. */
public final class PromiseTest {
  private static final int NONE = -1, BAD = -2, STATE = -3, FULL = -4;
  private static final int LOW = Integer.MIN_VALUE, HIGH = Integer.MAX_VALUE;
  private static final long NO = Long.MIN_VALUE;
  private static final int SLAB = 0, WALL = 1, COLUMN = 2, STRIP = 3;
  private static final Checks checks = new Checks();

  public static void main(String[] args) {
    newObject();
    piece();
    pieceRefusals();
    ahead();
    form();
    gang();
    level();
    warm();
    base();
    point();
    unpoint();
    table();
    planByForms();
    planByGang();
    planByAhead();
    planByStands();
    planEnds();
    order();
    best();
    bestOfEquals();
    bestKeepsWhatStands();
    better();
    betterTenTimes();
    now();
    bound();
    about();
    hard();
    why();
    whyInOrder();
    free();
    poured();
    borne();
    borneByNone();
    count();
    refusalsChangeNothing();
    checks.end();
  }

  private static void due(String call, long got, long want) {
    checks.due(call, got, want);
  }

  private static PourPlan site() {
    return Sites.hardening();
  }

  private static int strip(PourPlan x, int volume, int size, int faces) {
    return x.piece(STRIP, 0, volume, size, faces);
  }

  // ---- promise 1
  private static void newObject() {
    checks.begin("1 new object");
    PourPlan x = new PourPlan();
    long[] counts = {0, 0, 0, 0, 100, 0, 0};
    for (int what = 0; what < counts.length; what++) due("count " + what, x.count(what), counts[what]);
    for (int size = 0; size < 3; size++) due("free " + size, x.free(size, 39), 10);
    for (int day = 0; day < 40; day++) due("warm " + day, x.warm(day, 20), 20);
    due("level 0", x.level(0, 0), 500);
    due("level 1", x.level(1, 0), 300);
    due("table", x.table(2000), 0);
    due("about", x.about(0, 0), NONE);
    due("plan", x.plan(), 0);
    due("bound", x.bound(), 0);
    due("best", x.best(), STATE);
    due("better", x.better(), 0);
    due("NO", PourPlan.NO, NO);
  }

  // ---- promise 2
  private static void piece() {
    checks.begin("2 piece");
    PourPlan x = new PourPlan();
    for (int i = 0; i < 10; i++) due("piece " + i, x.piece(i % 4, i % 6, 1 + i, i % 3, 1 + i % 9), i);
    for (int i = 0; i < 10; i++) {
      long[] wanted = {i % 4, i % 6, 1 + i, i % 3, 1 + i % 9, NONE, NONE, i};
      for (int what = 0; what < 8; what++) due("about " + i + " " + what, x.about(i, what), wanted[what]);
    }
    due("the 11th", x.piece(0, 0, 1, 0, 1), FULL);
    due("count", x.count(0), 10);
    PourPlan y = new PourPlan();
    y.piece(STRIP, 5, 200, 2, 9);
    y.piece(STRIP, 0, 1, 0, 1);
    y.order(0, 1);
    due("third", y.piece(WALL, 0, 1, 0, 1), 2);
    due("comes last", y.about(2, 7), 2);
    due("first is where it was", y.about(0, 7), 1);
  }

  private static void pieceRefusals() {
    checks.begin("2 piece, refusals");
    PourPlan x = new PourPlan();
    for (int bad : new int[] {LOW, -1, 4, HIGH}) due("kind " + bad, x.piece(bad, 0, 0, 0, 0), NONE);
    for (int bad : new int[] {LOW, -1, 6, HIGH}) due("floor " + bad, x.piece(0, bad, 0, 0, 0), NONE);
    for (int bad : new int[] {LOW, -1, 3, HIGH}) due("size " + bad, x.piece(0, 0, 0, bad, 0), NONE);
    for (int bad : new int[] {LOW, 0, 201, HIGH}) due("volume " + bad, x.piece(0, 0, bad, 0, 1), BAD);
    for (int bad : new int[] {LOW, 0, 10, HIGH}) due("faces " + bad, x.piece(0, 0, 1, 0, bad), BAD);
    due("nothing came", x.count(0), 0);
    for (int i = 0; i < 10; i++) x.piece(3, 5, 200, 2, 9);
    due("NONE ahead of FULL", x.piece(0, 0, 1, 3, 1), NONE);
    due("BAD ahead of FULL", x.piece(0, 0, 1, 0, 10), BAD);
    due("FULL", x.piece(0, 0, 1, 0, 1), FULL);
  }

  // ---- promise 3
  private static void ahead() {
    checks.begin("3 ahead");
    PourPlan x = new PourPlan();
    due("no pieces", x.ahead(0, 0, 10), NONE);
    for (int i = 0; i < 4; i++) strip(x, 1, 0, 1);
    due("nothing was told", x.ahead(0, 1, 0), NONE);
    due("in its place", x.ahead(0, 1, 9), 0);
    due("in its place", x.ahead(0, 1, 4), 9);
    due("the other way", x.ahead(1, 0, 1), BAD);
    due("1 2", x.ahead(1, 2, 0), NONE);
    due("2 3", x.ahead(2, 3, 0), NONE);
    due("by others", x.ahead(3, 0, 0), BAD);
    due("by others", x.ahead(2, 0, 0), BAD);
    due("along with others", x.ahead(0, 3, 2), NONE);
    due("itself", x.ahead(2, 2, 1), BAD);
    for (int bad : new int[] {LOW, -1, 10, HIGH}) due("days " + bad, x.ahead(0, 2, bad), BAD);
    for (int bad : new int[] {LOW, -1, 4, HIGH}) {
      due("a " + bad, x.ahead(bad, 2, 10), NONE);
      due("b " + bad, x.ahead(2, bad, 10), NONE);
    }
    due("refusals left nothing", x.ahead(0, 2, 3), NONE);
    due("nor changed", x.ahead(0, 1, 1), 4);
  }

  // ---- promise 4
  private static void form() {
    checks.begin("4 form");
    PourPlan x = new PourPlan();
    due("1", x.form(1, 50), 10);
    due("1", x.form(1, 0), 50);
    due("2", x.form(2, 7), 10);
    for (int bad : new int[] {LOW, -1, 51, HIGH}) due("n " + bad, x.form(1, bad), BAD);
    for (int bad : new int[] {LOW, -1, 3, HIGH}) due("size " + bad, x.form(bad, -1), NONE);
    due("free 0", x.free(0, 0), 10);
    due("free 1", x.free(1, 0), 0);
    due("free 2", x.free(2, 0), 7);
  }

  // ---- promise 5
  private static void gang() {
    checks.begin("5 gang");
    PourPlan x = new PourPlan();
    due("1", x.gang(1), 100);
    due("1000", x.gang(1000), 1);
    for (int bad : new int[] {LOW, -1, 0, 1001, HIGH}) due("n " + bad, x.gang(bad), BAD);
    due("count", x.count(4), 1000);
  }

  // ---- promise 6
  private static void level() {
    checks.begin("6 level");
    PourPlan x = new PourPlan();
    due("0", x.level(0, 1000), 500);
    due("1", x.level(1, 0), 300);
    for (int bad : new int[] {LOW, -1, 1001, HIGH}) due("v " + bad, x.level(0, bad), BAD);
    for (int bad : new int[] {LOW, -1, 2, HIGH}) due("which " + bad, x.level(bad, -1), NONE);
    due("0", x.level(0, 1), 1000);
    due("1", x.level(1, 1), 0);
  }

  // ---- promise 7
  private static void warm() {
    checks.begin("7 warm");
    PourPlan x = new PourPlan();
    due("edge", x.warm(0, -30), 20);
    due("edge", x.warm(0, 50), -30);
    due("last day", x.warm(39, -1), 20);
    due("-1 is a warmth", x.warm(39, -2), -1);
    for (int bad : new int[] {LOW, -31, 51, HIGH}) due("w " + bad, x.warm(39, bad), LOW + 1);
    for (int bad : new int[] {LOW, -1, 40, HIGH}) due("day " + bad, x.warm(bad, 51), LOW);
    due("as it was", x.warm(39, 0), -2);
  }

  // ---- promise 8
  private static void base() {
    checks.begin("8 base");
    PourPlan x = site();
    strip(x, 1, 0, 1);
    x.plan();
    x.warm(1, 3);
    due("15", x.base(15), 0);
    due("a day below BASE has no degrees", x.hard(0, 3), 100);
    due("20", x.base(20), 15);
    due("none are left", x.hard(0, 39), 0);
    for (int bad : new int[] {LOW, -1, 21, HIGH}) due("b " + bad, x.base(bad), BAD);
    due("0", x.base(0), 20);
    due("count", x.count(5), 0);
  }

  // ---- promise 9
  private static void point() {
    checks.begin("9 point");
    PourPlan x = new PourPlan();
    for (int bad : new int[] {LOW, -1, 0, 2001, HIGH}) due("degrees " + bad, x.point(bad, 0), BAD);
    for (int bad : new int[] {LOW, -1, 1001, HIGH}) due("thousandths " + bad, x.point(1, bad), BAD);
    due("1", x.point(1, 0), 1);
    due("as many degrees", x.point(1, 5), BAD);
    due("as hard", x.point(2, 0), 2);
    due("3", x.point(10, 500), 3);
    due("falling", x.point(20, 499), BAD);
    due("fewer degrees", x.point(9, 600), BAD);
    due("4", x.point(20, 500), 4);
    due("5", x.point(1999, 999), 5);
    due("6", x.point(2000, 1000), 6);
    due("BAD ahead of FULL", x.point(2000, 1000), BAD);
    due("count", x.count(3), 6);
    PourPlan y = new PourPlan();
    for (int i = 1; i <= 6; i++) due("point " + i, y.point(i, 0), i);
    due("FULL", y.point(7, 0), FULL);
    due("BAD ahead of FULL", y.point(6, 0), BAD);
    due("count", y.count(3), 6);
  }

  // ---- promise 10
  private static void unpoint() {
    checks.begin("10 unpoint");
    PourPlan x = site();
    x.point(200, 1000);
    strip(x, 1, 0, 1);
    x.plan();
    due("two", x.unpoint(), 2);
    due("none", x.unpoint(), 0);
    due("table", x.table(100), 0);
    due("hard", x.hard(0, 30), 0);
    due("stripped", x.about(0, 6), 40);
    due("a lesser one", x.point(50, 10), 1);
    due("table", x.table(2000), 10);
  }

  // ---- promise 11
  private static void table() {
    checks.begin("11 table");
    PourPlan x = new PourPlan();
    x.point(3, 10);
    x.point(10, 11);
    x.point(17, 1000);
    long[] wanted = {0, 3, 6, 10, 10, 10, 10, 10, 10, 10, 11, 152};
    for (int i = 0; i < wanted.length; i++) due("table " + i, x.table(i), wanted[i]);
    due("16", x.table(16), 858);
    due("17", x.table(17), 1000);
    due("18", x.table(18), 1000);
    due("far", x.table(HIGH), 1000);
    due("below 0", x.table(-1), BAD);
    due("far below 0", x.table(LOW), BAD);
  }

  // ---- promise 12
  private static void planByForms() {
    checks.begin("12 plan, forms");
    PourPlan x = site();
    for (int i = 0; i < 3; i++) strip(x, 10, 0, 6);
    strip(x, 10, 1, 6);
    strip(x, 10, 0, 4);
    due("plan", x.plan(), 9);
    long[] days = {0, 3, 6, 0, 0};
    for (int i = 0; i < days.length; i++) due("day of " + i, x.about(i, 5), days[i]);
    x.form(0, 11);
    due("one is not enough", x.plan(), 9);
    x.form(0, 12);
    due("two at once", x.plan(), 6);
    due("day of 4", x.about(4, 5), 3);
    x.form(0, 3);
    due("never", x.plan(), 40);
    due("poured", x.count(1), 1);
  }

  private static void planByGang() {
    checks.begin("12 plan, gang");
    PourPlan x = site();
    x.form(0, 50);
    strip(x, 60, 0, 1);
    strip(x, 50, 0, 1);
    strip(x, 40, 0, 1);
    strip(x, 100, 0, 1);
    due("plan", x.plan(), 5);
    long[] days = {0, 1, 0, 2};
    for (int i = 0; i < days.length; i++) due("day of " + i, x.about(i, 5), days[i]);
    x.gang(99);
    due("too much for any day", x.plan(), 40);
    due("day of 2", x.about(2, 5), 1);
    due("day of 3", x.about(3, 5), NONE);
  }

  private static void planByAhead() {
    checks.begin("12 plan, ahead");
    PourPlan x = site();
    for (int i = 0; i < 3; i++) strip(x, 1, 0, 1);
    x.ahead(0, 1, 0);
    x.ahead(1, 2, 4);
    due("plan", x.plan(), 7);
    due("on the same day", x.about(1, 5), 0);
    due("four days later", x.about(2, 5), 4);
    x.order(1, 0);
    due("behind it in the order", x.plan(), 8);
    due("the next day", x.about(1, 5), 1);
    due("four days later", x.about(2, 5), 5);
  }

  private static void planByStands() {
    checks.begin("12 plan, stands");
    PourPlan x = site();
    x.gang(1000);
    x.piece(SLAB, 1, 1, 0, 1);
    x.piece(SLAB, 0, 1, 0, 1);
    x.piece(WALL, 1, 1, 1, 1);
    x.piece(COLUMN, 1, 1, 1, 1);
    x.piece(STRIP, 1, 1, 1, 1);
    x.piece(WALL, 2, 1, 1, 1);
    x.piece(COLUMN, 0, 1, 1, 1);
    x.piece(SLAB, 2, 1, 2, 1);
    x.ahead(2, 3, 1);
    due("plan", x.plan(), 9);
    // The column of floor 0 bears slab 1 on day 2, and that bears slab 0 on day 4, and that slab 7 on day 6.
    long[] days = {4, 2, 0, 1, 0, 0, 0, 6};
    for (int i = 0; i < days.length; i++) due("day of " + i, x.about(i, 5), days[i]);
    x.ahead(2, 3, 7);
    due("plan", x.plan(), 14);
    due("waits for its column", x.about(0, 5), 9);
    x.level(1, 0);
    due("none must be hard, but poured", x.plan(), 11);
    due("is looked at ahead of its column of day 7", x.about(0, 5), 8);
    due("slab of floor 0 is looked at ahead of its column", x.about(1, 5), 1);
    due("on the same day as the slab below it", x.about(7, 5), 8);
  }

  private static void planEnds() {
    checks.begin("12 plan, end");
    PourPlan x = new PourPlan();
    strip(x, 1, 0, 1);
    due("never hard", x.plan(), 40);
    due("poured", x.count(1), 1);
    x.level(0, 0);
    due("the next day at least", x.plan(), 1);
    x = new PourPlan();
    x.level(0, 0);
    strip(x, 1, 0, 1);
    x.now(38);
    due("poured on 38", x.plan(), 39);
    x.now(39);
    due("stands since 38", x.plan(), 39);
    strip(x, 1, 0, 1);
    due("poured on 39, so not till 39", x.plan(), 40);
    due("poured on 39", x.about(1, 5), 39);
    due("stripped", x.about(1, 6), 40);
    PourPlan y = site();
    for (int day = 0; day < 36; day++) y.warm(day, day == 0 ? 20 : 0);
    strip(y, 1, 0, 1);
    due("200 on 1, 400 on 37, 600 on 38", y.plan(), 38);
    due("what it was", y.warm(36, 0), 20);
    due("600 on 39", y.plan(), 39);
    y.warm(37, 9);
    due("490 on 39", y.plan(), 40);
  }

  // ---- promise 13
  private static void order() {
    checks.begin("13 order");
    PourPlan x = new PourPlan();
    for (int i = 0; i < 5; i++) strip(x, 1, 0, 1);
    due("from 1 to 3", x.order(1, 3), 1);
    long[] places = {0, 3, 1, 2, 4};
    for (int i = 0; i < 5; i++) due("place of " + i, x.about(i, 7), places[i]);
    due("from 4 to 0", x.order(4, 0), 4);
    long[] after = {1, 4, 2, 3, 0};
    for (int i = 0; i < 5; i++) due("place of " + i, x.about(i, 7), after[i]);
    due("where it is", x.order(3, 3), 3);
    for (int bad : new int[] {LOW, -1, 5, HIGH}) {
      due("piece " + bad, x.order(bad, 0), NONE);
      due("i " + bad, x.order(0, bad), NONE);
    }
    for (int i = 0; i < 5; i++) due("place of " + i, x.about(i, 7), after[i]);
  }

  // ---- promise 14
  private static PourPlan longTail() {
    PourPlan x = site();
    strip(x, 1, 0, 9);
    strip(x, 1, 0, 1);
    strip(x, 1, 0, 9);
    x.ahead(2, 1, 9);
    return x;
  }

  private static void best() {
    checks.begin("14 best");
    PourPlan x = longTail();
    due("plan", x.plan(), 15);
    due("best", x.best(), 12);
    // All orders with 2 ahead of 0 end on 12; 1 2 0 is the first of them.
    due("place of 0", x.about(0, 7), 2);
    due("place of 1", x.about(1, 7), 0);
    due("place of 2", x.about(2, 7), 1);
    due("day of 0", x.about(0, 5), 3);
    due("day of 1", x.about(1, 5), 9);
    due("day of 2", x.about(2, 5), 0);
    due("end", x.count(6), 12);
    strip(x, 1, 1, 1);
    strip(x, 1, 1, 1);
    due("of five", x.best(), 12);
    strip(x, 1, 1, 1);
    due("of six", x.best(), STATE);
    due("end", x.count(6), 12);
    due("none", new PourPlan().best(), STATE);
    PourPlan y = site();
    strip(y, 1, 0, 1);
    due("of one", y.best(), 3);
    due("poured", y.about(0, 5), 0);
  }

  private static void bestOfEquals() {
    checks.begin("14 best, equals");
    PourPlan x = site();
    for (int i = 0; i < 5; i++) strip(x, 1, 0, 1);
    for (int i = 0; i < 5; i++) x.order(i, 0);
    due("place of 0", x.about(0, 7), 4);
    due("best", x.best(), 3);
    for (int i = 0; i < 5; i++) due("place of " + i, x.about(i, 7), i);
    PourPlan y = new PourPlan();
    strip(y, 1, 0, 1);
    strip(y, 1, 0, 1);
    y.order(1, 0);
    due("none is ever stripped", y.best(), 40);
    due("place of 1", y.about(1, 7), 1);
    due("planned", y.count(1), 2);
    // The last order of all is the only best one: each piece must go ahead of those before it.
    PourPlan z = site();
    for (int i = 0; i < 5; i++) strip(z, 1, 0, 1);
    for (int i = 0; i < 4; i++) z.ahead(i + 1, i, 0);
    due("by numbers", z.plan(), 7);
    due("best", z.best(), 3);
    for (int i = 0; i < 5; i++) due("place of " + i, z.about(i, 7), 4 - i);
  }

  private static void bestKeepsWhatStands() {
    checks.begin("14 best, now");
    PourPlan x = longTail();
    x.plan();
    due("0 stands since day 0", x.now(1), 2);
    due("best", x.best(), 15);
    due("day of 0", x.about(0, 5), 0);
    due("day of 2", x.about(2, 5), 3);
    for (int i = 0; i < 3; i++) due("place of " + i, x.about(i, 7), i);
  }

  // ---- promise 15
  private static void better() {
    checks.begin("15 better");
    PourPlan x = longTail();
    due("no change of neighbours helps", x.better(), 0);
    due("planned", x.count(6), 15);
    due("day of 2", x.about(2, 5), 3);
    x.order(2, 1);
    due("0 2 1", x.better(), 1);
    due("end", x.count(6), 12);
    due("place of 2", x.about(2, 7), 0);
    due("place of 0", x.about(0, 7), 1);
    due("place of 1", x.about(1, 7), 2);
    due("day of 1", x.about(1, 5), 9);
    due("again", x.better(), 0);
    due("none", new PourPlan().better(), 0);
    PourPlan y = site();
    for (int i = 0; i < 4; i++) strip(y, 1, 0, 1);
    y.ahead(1, 0, 0);
    y.ahead(3, 2, 0);
    due("only both together help", y.better(), 0);
    due("end", y.count(6), 4);
    due("told again", y.ahead(1, 0, 9), 0);
    due("told again", y.ahead(3, 2, 9), 0);
    y.order(1, 0);
    due("day 9 is soon enough for both", y.better(), 0);
    PourPlan w = site();
    for (int i = 0; i < 4; i++) strip(w, 1, 0, 1);
    w.ahead(3, 2, 0);
    due("the last two", w.better(), 1);
    due("place of 3", w.about(3, 7), 2);
    PourPlan z = site();
    for (int i = 0; i < 3; i++) strip(z, 1, 0, 1);
    z.ahead(2, 1, 0);
    z.ahead(1, 0, 0);
    // 0 1 2 ends on 5; 1 0 2 and 0 2 1 both end on 4, and no change of 1 0 2 ends sooner.
    due("the first one that helps", z.better(), 1);
    due("place of 0", z.about(0, 7), 1);
    due("place of 1", z.about(1, 7), 0);
    due("place of 2", z.about(2, 7), 2);
    due("end", z.count(6), 4);
  }

  // Found by a search with the class, too long to reckon by hand: so the model must answer the same.
  private static void betterTenTimes() {
    checks.begin("15 better, ten times");
    int[] warmth = {16, 1, 33, 6, 3, 24, 22, 36, 13, 35, 23, 23, 21, 16, 27, 29, 29, 27, 36, 22, 22, 39, 29, 36, 15, 30,
        19, 34, 10, 28, 36, 2, 26, 8, 32, 11, 9, 3, 25, 8};
    int[][] pieces = {{79, 1, 4}, {96, 0, 6}, {66, 0, 9}, {41, 0, 9}, {53, 0, 7}, {53, 0, 9}, {41, 0, 7}, {58, 0, 7},
        {2, 1, 4}, {83, 1, 6}};
    int[][] ahead = {{4, 0, 6}, {1, 8, 7}, {9, 1, 0}, {3, 2, 1}, {6, 1, 6}, {7, 9, 8}, {9, 0, 0}, {5, 8, 2}};
    PourPlan x = new PourPlan();
    x.point(40, 500);
    for (int day = 0; day < 40; day++) x.warm(day, warmth[day]);
    for (int[] p : pieces) strip(x, p[0], p[1], p[2]);
    for (int[] a : ahead) x.ahead(a[0], a[1], a[2]);
    Model m = new Model();
    m.point(40, 500);
    for (int day = 0; day < 40; day++) m.warm(day, warmth[day]);
    for (int[] p : pieces) m.piece(STRIP, 0, p[0], p[1], p[2]);
    for (int[] a : ahead) m.ahead(a[0], a[1], a[2]);
    due("plan of the model", m.plan(), 33);
    due("ten at most, the model", m.better(), 10);
    due("end of the model", m.count(6), 19);
    due("an eleventh, the model", m.better(), 1);
    due("end of the model", m.count(6), 18);
    due("plan", x.plan(), 33);
    due("ten at most", x.better(), 10);
    due("end", x.count(6), 19);
    due("there was an eleventh", x.better(), 1);
    due("end", x.count(6), 18);
  }

  // ---- promise 16
  private static void now() {
    checks.begin("16 now");
    PourPlan x = site();
    for (int i = 0; i < 3; i++) strip(x, 1, 0, 6);
    x.plan();
    due("0 on 0, 1 on 3, 2 on 6", x.about(2, 5), 6);
    due("the day itself counts", x.now(3), 2);
    due("0 stays", x.about(0, 5), 0);
    due("1 does not", x.about(1, 5), NONE);
    due("nor is it stripped", x.about(1, 6), NONE);
    due("again", x.now(3), 0);
    due("count", x.count(2), 3);
    due("poured", x.count(1), 1);
    due("end as it was", x.count(6), 9);
    for (int bad : new int[] {LOW, -1, 40, HIGH}) due("day " + bad, x.now(bad), NONE);
    due("ahead of it", x.now(2), BAD);
    due("ahead of it", x.now(0), BAD);
    x.now(5);
    due("from now on", x.plan(), 11);
    due("day of 1", x.about(1, 5), 5);
    x.order(0, 2);
    x.gang(1);
    due("what stands is not planned anew", x.plan(), 11);
    due("day of 0", x.about(0, 5), 0);
    due("the last day", x.now(39), 0);
    due("and no other", x.now(38), BAD);
    due("all stands", x.plan(), 11);
    strip(x, 1, 0, 1);
    due("too late", x.plan(), 40);
    due("day of 3", x.about(3, 5), 39);
    due("planned for now", x.now(39), 1);
  }

  // ---- promise 17
  private static void bound() {
    checks.begin("17 bound");
    PourPlan x = new PourPlan();
    due("no pieces", x.bound(), 0);
    for (int i = 0; i < 10; i++) strip(x, 1, 0, 1);
    due("no ahead", x.bound(), 1);
    x.ahead(0, 1, 0);
    due("ahead 0", x.bound(), 1);
    x.ahead(2, 1, 3);
    x.ahead(1, 0, 9);
    x.ahead(0, 3, 9);
    due("the other side", x.bound(), 10);
    x.ahead(1, 3, 7);
    due("2 1 3", x.bound(), 11);
    x.ahead(1, 3, 6);
    due("2 1 3 less", x.bound(), 10);
    PourPlan y = new PourPlan();
    for (int i = 0; i < 10; i++) strip(y, 1, 0, 1);
    for (int i = 9; i > 0; i--) y.ahead(i, i - 1, 9);
    due("the longest of all", y.bound(), 82);
    due("by nine others", y.ahead(0, 9, 0), BAD);
  }

  // ---- promise 18
  private static void about() {
    checks.begin("18 about");
    PourPlan x = site();
    x.piece(COLUMN, 4, 30, 1, 5);
    x.plan();
    long[] wanted = {COLUMN, 4, 30, 1, 5, 0, 3, 0};
    for (int what = 0; what < 8; what++) due("what " + what, x.about(0, what), wanted[what]);
    for (int bad : new int[] {LOW, -1, 8, HIGH}) due("what " + bad, x.about(0, bad), NONE);
    for (int bad : new int[] {LOW, -1, 1, HIGH}) due("piece " + bad, x.about(bad, 0), NONE);
    x.level(0, 601);
    due("stripped by the level of now", x.about(0, 6), 4);
    x.level(0, 600);
    due("as hard as that", x.about(0, 6), 3);
    x.warm(0, -30);
    due("stripped by the weather of now", x.about(0, 6), 4);
    x.base(19);
    due("1 degree a day: 390 on 39", x.about(0, 6), 40);
    due("poured as it was", x.about(0, 5), 0);
    due("end as it was", x.count(6), 3);
  }

  // ---- promise 19
  private static void hard() {
    checks.begin("19 hard");
    PourPlan x = site();
    strip(x, 1, 0, 6);
    strip(x, 1, 0, 6);
    due("not poured", x.hard(0, 0), NONE);
    x.warm(4, 7);
    x.warm(5, -7);
    x.plan();
    due("on its day", x.hard(0, 0), 0);
    due("on 1", x.hard(0, 1), 200);
    due("on 39", x.hard(0, 39), 1000);
    due("ahead of its day", x.hard(1, 2), NONE);
    long[] wanted = {0, 200, 270, 270, 470};
    for (int i = 0; i < wanted.length; i++) due("on " + (3 + i), x.hard(1, 3 + i), wanted[i]);
    for (int bad : new int[] {LOW, -1, 40, HIGH}) due("day " + bad, x.hard(0, bad), NONE);
    for (int bad : new int[] {LOW, -1, 2, HIGH}) due("piece " + bad, x.hard(bad, 0), NONE);
  }

  // ---- promise 20
  private static void why() {
    checks.begin("20 why");
    PourPlan x = site();
    x.piece(SLAB, 0, 60, 0, 6);
    x.piece(WALL, 0, 60, 0, 6);
    due("not poured, so nothing holds forms", x.why(1, 0), 0);
    due("its wall is not poured", x.why(0, 39), 2);
    x.plan();
    due("wall on 0", x.about(1, 5), 0);
    due("slab on 3, by forms", x.about(0, 5), 3);
    due("its own pouring aside", x.why(1, 0), 0);
    due("its own pouring aside", x.why(0, 3), 0);
    due("on a later day, with its own forms free", x.why(0, 4), 0);
    due("wall not hard", x.why(0, 1), 2);
    due("wall bears, but has the forms", x.why(0, 2), 3);
    due("the slab has the forms", x.why(1, 4), 3);
    due("the slab is stripped", x.why(1, 6), 0);
    x.form(0, 50);
    due("the gang pours the slab", x.why(1, 3), 4);
    x.gang(120);
    due("just enough", x.why(1, 3), 0);
    x.level(1, 401);
    due("by the level of now", x.why(0, 2), 2);
    for (int bad : new int[] {LOW, -1, 40, HIGH}) due("day " + bad, x.why(0, bad), NONE);
    for (int bad : new int[] {LOW, -1, 2, HIGH}) due("piece " + bad, x.why(bad, 0), NONE);
    PourPlan y = site();
    y.level(1, 0);
    y.piece(SLAB, 0, 1, 0, 1);
    y.piece(WALL, 0, 1, 0, 1);
    y.now(2);
    y.plan();
    due("wall on 2", y.about(1, 5), 2);
    due("not poured by then, though BEAR is 0", y.why(0, 1), 2);
    due("poured on that day", y.why(0, 2), 0);
  }

  private static void whyInOrder() {
    checks.begin("20 why, the first one told");
    PourPlan x = site();
    x.piece(SLAB, 0, 100, 0, 9);
    x.piece(COLUMN, 0, 100, 0, 9);
    x.ahead(1, 0, 2);
    x.gang(99);
    x.form(0, 8);
    due("1", x.why(0, 5), 1);
    x.gang(100);
    x.form(0, 9);
    x.plan();
    due("column on 0", x.about(1, 5), 0);
    x.gang(99);
    x.form(0, 8);
    due("too late", x.why(0, 1), 1);
    due("not hard", x.level(1, 401), 300);
    due("2", x.why(0, 2), 2);
    x.level(1, 400);
    due("3", x.why(0, 2), 3);
    x.form(0, 18);
    due("4", x.why(0, 2), 4);
    x.gang(100);
    due("0", x.why(0, 2), 0);
    PourPlan y = site();
    strip(y, 1, 0, 1);
    strip(y, 1, 0, 1);
    y.ahead(0, 1, 0);
    y.plan();
    due("ahead of it in the order", y.why(1, 0), 0);
    y.order(0, 1);
    due("behind it in the order", y.why(1, 0), 1);
    due("the next day", y.why(1, 1), 0);
  }

  // ---- promise 21
  private static void free() {
    checks.begin("21 free");
    PourPlan x = site();
    strip(x, 1, 0, 6);
    strip(x, 1, 0, 3);
    strip(x, 1, 0, 4);
    strip(x, 1, 2, 9);
    x.plan();
    long[] wanted = {1, 1, 1, 6, 6, 6, 10, 10};
    for (int day = 0; day < wanted.length; day++) due("on " + day, x.free(0, day), wanted[day]);
    due("of 1", x.free(1, 0), 10);
    due("of 2", x.free(2, 0), 1);
    x.level(0, 1000);
    due("held longer by the level of now", x.free(2, 4), 1);
    due("held longer by the level of now", x.free(2, 5), 10);
    for (int bad : new int[] {LOW, -1, 3, HIGH}) due("size " + bad, x.free(bad, 0), NONE);
    for (int bad : new int[] {LOW, -1, 40, HIGH}) due("day " + bad, x.free(0, bad), NONE);
  }

  // ---- promise 22
  private static void poured() {
    checks.begin("22 poured");
    PourPlan x = site();
    strip(x, 60, 0, 1);
    strip(x, 50, 0, 1);
    strip(x, 40, 0, 1);
    due("not planned", x.poured(0), 0);
    x.plan();
    due("on 0", x.poured(0), 100);
    due("on 1", x.poured(1), 50);
    due("on 2", x.poured(2), 0);
    x.now(1);
    due("on 0", x.poured(0), 100);
    due("on 1", x.poured(1), 0);
    for (int bad : new int[] {LOW, -1, 40, HIGH}) due("day " + bad, x.poured(bad), NONE);
  }

  // ---- promise 23
  private static void borneIs(PourPlan x, int piece, int day, long above, long below) {
    due("borne(" + piece + ", " + day + ", 0)", x.borne(piece, day, 0), above);
    due("borne(" + piece + ", " + day + ", 1)", x.borne(piece, day, 1), below);
  }

  private static void borne() {
    checks.begin("23 borne");
    PourPlan x = site();
    x.gang(1000);
    x.piece(SLAB, 0, 30, 0, 1);
    x.piece(SLAB, 0, 40, 0, 1);
    x.piece(SLAB, 1, 50, 0, 1);
    x.piece(SLAB, 2, 70, 0, 1);
    x.piece(SLAB, 3, 90, 0, 1);
    x.piece(WALL, 5, 90, 1, 1);
    x.ahead(0, 1, 1);
    due("plan", x.plan(), 10);
    long[] days = {0, 1, 3, 5, 7, 0};
    for (int i = 0; i < days.length; i++) due("day of " + i, x.about(i, 5), days[i]);
    borneIs(x, 0, 0, 30, 1);
    // Day 3: slab 2 is borne by 0 (600) and 1 (400).
    borneIs(x, 0, 3, 60, 1);
    borneIs(x, 1, 3, 60, 1);
    // Day 4: by 800 and 600.
    borneIs(x, 0, 4, 410, 7);
    borneIs(x, 1, 4, 430, 7);
    // Day 5: by 1000 and 800; slab 3 by 1000, 800 and, of the floor between, 400.
    borneIs(x, 0, 5, 8870, 99);
    borneIs(x, 2, 5, 690, 11);
    borneIs(x, 3, 5, 70, 1);
    // Day 6: slab 2 is stripped, slab 3 by 1000, 1000, 600.
    borneIs(x, 0, 6, 740, 13);
    // Day 7: slab 4 on floor 3 is not borne by floor 0; slab 3 by 1000, 1000, 800; slab 4 by 800 and 400.
    borneIs(x, 0, 7, 55, 1);
    borneIs(x, 2, 7, 130, 1);
    borneIs(x, 3, 7, 100, 1);
    // Day 8: slab 3 is stripped, slab 4 by 1000 and 600.
    borneIs(x, 0, 8, 30, 1);
    borneIs(x, 2, 8, 425, 4);
    // Day 10: all are stripped.
    borneIs(x, 2, 10, 50, 1);
    due("no slab", x.borne(5, 3, 0), NO);
    due("not poured by then", x.borne(2, 2, 0), NO);
    for (int bad : new int[] {LOW, -1, 40, HIGH}) due("day " + bad, x.borne(0, bad, 0), NO);
    for (int bad : new int[] {LOW, -1, 6, HIGH}) due("piece " + bad, x.borne(bad, 0, 0), NO);
    for (int bad : new int[] {LOW, -1, 2, HIGH}) due("part " + bad, x.borne(0, 0, bad), NO);
    x.level(0, 1000);
    due("by the level of now", x.borne(2, 10, 0), 95);
    x.now(3);
    due("not poured", x.borne(2, 39, 1), NO);
  }

  private static void borneByNone() {
    checks.begin("23 borne, by none");
    PourPlan x = new PourPlan();
    x.level(1, 0);
    for (int floor = 0; floor < 6; floor++) x.piece(SLAB, floor, 10 + floor, 0, 1);
    x.plan();
    for (int p = 0; p < 6; p++) borneIs(x, p, 20, 10 + p, 1);
    x.point(2000, 499);
    // All are poured on 0, equally hard for ever: two floors below bear a half each, floor 0 all of floor 1.
    borneIs(x, 0, 1, 27, 1);
    borneIs(x, 3, 1, 55, 2);
    borneIs(x, 4, 1, 43, 2);
    borneIs(x, 5, 1, 15, 1);
    borneIs(x, 0, 0, 10, 1);
    // Two slabs of one floor load the one below.
    x.piece(SLAB, 1, 3, 1, 1);
    x.plan();
    due("day of 6", x.about(6, 5), 0);
    // Floor 1 loads 11 and 3; floor 2 loads 12, borne by 0, 1, 6 with a third each.
    borneIs(x, 0, 1, 28, 1);
    PourPlan y = new PourPlan();
    y.level(1, 0);
    y.piece(SLAB, 2, 7, 0, 1);
    y.piece(SLAB, 0, 5, 0, 1);
    y.plan();
    y.point(21, 1);
    due("hardness on 1", y.hard(1, 1), 0);
    borneIs(y, 1, 1, 5, 1);
    due("hardness on 2", y.hard(1, 2), 1);
    borneIs(y, 1, 2, 12, 1);
  }

  // ---- promise 24
  private static void count() {
    checks.begin("24 count");
    PourPlan x = site();
    x.gang(50);
    x.base(3);
    strip(x, 1, 0, 6);
    strip(x, 1, 0, 6);
    strip(x, 51, 0, 1);
    due("ahead of any plan", x.count(6), 0);
    due("plan", x.plan(), 40);
    x.gang(51);
    due("plan", x.plan(), 6);
    x.now(2);
    long[] wanted = {3, 2, 2, 1, 51, 3, 6};
    for (int what = 0; what < wanted.length; what++) due("what " + what, x.count(what), wanted[what]);
    due("day of 1", x.about(1, 5), NONE);
    x.better();
    due("end", x.count(6), 6);
    x.form(0, 50);
    x.best();
    due("end", x.count(6), 5);
    for (int bad : new int[] {LOW, -1, 7, HIGH}) due("what " + bad, x.count(bad), NONE);
  }

  private static void refusalsChangeNothing() {
    checks.begin("refusals");
    PourPlan x = site();
    for (int i = 0; i < 6; i++) strip(x, 1, 0, 3);
    due("plan", x.plan(), 6);
    x.best();
    x.now(-1);
    x.order(0, 6);
    x.order(6, 0);
    x.piece(4, 0, 1, 0, 1);
    x.ahead(0, 0, 1);
    x.point(100, 1000);
    x.level(0, 1001);
    x.warm(0, 51);
    x.warm(40, 50);
    x.base(21);
    x.form(0, 51);
    x.gang(0);
    due("plan", x.plan(), 6);
    for (int i = 0; i < 6; i++) {
      due("place of " + i, x.about(i, 7), i);
      due("day of " + i, x.about(i, 5), i < 3 ? 0 : 3);
    }
    due("bound", x.bound(), 1);
  }
}
