/** Every call on the empty object (no pieces, no POINTS, nothing planned) and on the full one (10 pieces, 6 POINTS). */
public final class EmptyFullTest {
  private static final int NONE = -1, STATE = -3, FULL = -4;
  private static final int HIGH = Integer.MAX_VALUE;
  private static final long NO = Long.MIN_VALUE;
  private static final Checks checks = new Checks();

  public static void main(String[] args) {
    emptyPlans();
    emptyLooks();
    emptyNumbersAtFirst();
    noPoints();
    notPlanned();
    fullTakesNoMore();
    fullPlans();
    fullOfSlabs();
    fullOnOneDay();
    lastOfManyCalls();
    checks.end();
  }

  private static void due(String call, long got, long want) {
    checks.due(call, got, want);
  }

  private static void emptyPlans() {
    checks.begin("empty, plans");
    PourPlan x = new PourPlan();
    due("plan", x.plan(), 0);
    due("best", x.best(), STATE);
    due("better", x.better(), 0);
    due("END", x.count(6), 0);
    due("order", x.order(0, 0), NONE);
    due("bound", x.bound(), 0);
    due("ahead", x.ahead(0, 1, 0), NONE);
    due("unpoint", x.unpoint(), 0);
    due("now", x.now(39), 0);
    due("plan from the last DAY on", x.plan(), 0);
    due("better from the last DAY on", x.better(), 0);
    due("END", x.count(6), 0);
  }

  private static void emptyLooks() {
    checks.begin("empty, looking");
    PourPlan x = new PourPlan();
    for (int what = 0; what < 8; what++) due("about 0 " + what, x.about(0, what), NONE);
    for (int day = 0; day < 40; day++) {
      due("hard", x.hard(0, day), NONE);
      due("why", x.why(0, day), NONE);
      due("poured", x.poured(day), 0);
      due("borne", x.borne(0, day, 0), NO);
      for (int size = 0; size < 3; size++) due("free", x.free(size, day), 10);
    }
  }

  private static void emptyNumbersAtFirst() {
    checks.begin("empty, numbers at first");
    PourPlan x = new PourPlan();
    int[] counts = {0, 0, 0, 0, 100, 0, 0};
    for (int what = 0; what < 7; what++) due("count " + what, x.count(what), counts[what]);
    for (int day = 0; day < 40; day++) due("warm " + day, x.warm(day, 0), 20);
    for (int size = 0; size < 3; size++) due("form " + size, x.form(size, 1), 10);
    due("gang", x.gang(1), 100);
    due("STRIP", x.level(0, 1), 500);
    due("BEAR", x.level(1, 1), 300);
    due("base", x.base(1), 0);
  }

  private static void noPoints() {
    checks.begin("without POINTS");
    PourPlan x = new PourPlan();
    Sites.strip(x, 1, 1);
    due("poured, but never STRIPPED", x.plan(), 40);
    due("poured on 0", x.about(0, 5), 0);
    due("not till 39", x.about(0, 6), 40);
    due("HARDNESS on 0", x.hard(0, 0), 0);
    due("HARDNESS on 39", x.hard(0, 39), 0);
    due("table", x.table(1), 0);
    due("held on the last DAY", x.free(0, 39), 9);
    x.level(0, 1);
    due("a thousandth is too much", x.about(0, 6), 40);
    x.level(0, 0);
    due("nothing is needed", x.about(0, 6), 1);
    PourPlan y = new PourPlan();
    y.piece(Sites.WALL, 0, 1, 0, 1);
    y.piece(Sites.SLAB, 0, 1, 0, 1);
    y.level(1, 1);
    due("plan", y.plan(), 40);
    due("a wall without HARDNESS does not bear", y.about(1, 5), NONE);
    y.level(1, 0);
    due("plan", y.plan(), 40);
    due("none is needed", y.about(1, 5), 0);
  }

  private static void notPlanned() {
    checks.begin("pieces, nothing planned");
    PourPlan x = Sites.hardening();
    for (int i = 0; i < 10; i++) x.piece(Sites.SLAB, 0, 200, 0, 9);
    due("END ahead of any plan", x.count(6), 0);
    due("poured", x.count(1), 0);
    due("now", x.now(0), 0);
    for (int p = 0; p < 10; p++) {
      due("day", x.about(p, 5), NONE);
      due("STRIPPED", x.about(p, 6), NONE);
      due("hard", x.hard(p, 39), NONE);
      due("borne", x.borne(p, 39, 0), NO);
      due("why: more than GANG", x.why(p, 0), 4);
    }
    due("free", x.free(0, 0), 10);
    due("poured on 0", x.poured(0), 0);
    due("bound", x.bound(), 1);
  }

  private static void fullTakesNoMore() {
    checks.begin("full");
    PourPlan x = Sites.full();
    due("an 11th piece", x.piece(0, 0, 1, 0, 1), FULL);
    due("pieces", x.count(0), 10);
    due("a 7th POINT", x.point(121, 900), FULL);
    due("POINTS", x.count(3), 6);
    due("best", x.best(), STATE);
    due("the last piece to the last place", x.order(9, 9), 0);
    due("there it is", x.about(9, 7), 9);
    due("the first piece is first", x.about(0, 7), 0);
    due("all POINTS go", x.unpoint(), 6);
    due("so there is room", x.point(1, 1), 1);
    due("pieces stay", x.count(0), 10);
  }

  private static void fullPlans() {
    checks.begin("full, plans");
    PourPlan x = Sites.hardening();
    for (int i = 0; i < 10; i++) Sites.strip(x, 200, 9);
    due("more than GANG, so none", x.plan(), 40);
    due("poured", x.count(1), 0);
    x.gang(200);
    // 9 of 10 FORMS are held for 3 DAYS: one on each third DAY, the last one on 27.
    due("one after another", x.plan(), 30);
    for (int i = 0; i < 10; i++) due("day of " + i, x.about(i, 5), 3 * i);
    due("no change of neighbours helps", x.better(), 0);
    x.form(0, 17);
    due("17 are not enough for two", x.plan(), 30);
    x.form(0, 18);
    // Two at once, but one a DAY by GANG: 0, 1, 3, 4, 6, 7, 9, 10, 12, 13.
    due("two at once", x.plan(), 16);
    for (int i = 0; i < 10; i++) due("day of " + i, x.about(i, 5), 3 * (i / 2) + i % 2);
    for (int i = 9; i > 0; i--) x.ahead(i, i - 1, 9);
    due("bound", x.bound(), 82);
    due("too long for all DAYS", x.plan(), 40);
    due("9 on 0, 8 on 9, 7 on 18, 6 on 27, 5 on 36", x.count(1), 5);
    due("day of 5", x.about(5, 5), 36);
    due("day of 4", x.about(4, 5), NONE);
  }

  private static void fullOfSlabs() {
    checks.begin("full, of SLABS on all FLOORS");
    PourPlan x = Sites.hardening();
    for (int i = 0; i < 10; i++) x.piece(Sites.SLAB, i % 6, 200, i % 3, 9);
    x.gang(1000);
    for (int size = 0; size < 3; size++) x.form(size, 50);
    // Each FLOOR waits 2 DAYS for the one below.
    due("plan", x.plan(), 13);
    for (int i = 0; i < 10; i++) due("day of " + i, x.about(i, 5), 2 * (i % 6));
    // FLOORS 4 and 5 have one SLAB each, the others two. On 11 FLOOR 5 has 200, FLOOR 4 600, FLOOR 3 1000 (twice).
    due("the top bears itself", x.borne(5, 11, 0), 200);
    due("the top bears itself", x.borne(5, 11, 1), 1);
    // 4 bears 600 of 2600 of the top: 200 * 3 / 13 = 600 / 13.
    due("floor 4", x.borne(4, 11, 0), 3200);
    due("floor 4", x.borne(4, 11, 1), 13);
    // 3 bears 1000 of 2600 of the top; FLOOR 4 is STRIPPED on 11.
    due("floor 3", x.borne(3, 11, 0), 3600);
    due("floor 3", x.borne(3, 11, 1), 13);
    due("floor 2 is too far below", x.borne(2, 11, 0), 200);
  }

  private static void fullOnOneDay() {
    checks.begin("full, all on one DAY");
    PourPlan x = Sites.hardening();
    for (int i = 0; i < 10; i++) Sites.strip(x, 100, 5);
    x.form(0, 50);
    x.gang(1000);
    due("50 FORMS and a GANG of 1000 are just enough", x.plan(), 3);
    due("poured", x.poured(0), 1000);
    due("free", x.free(0, 0), 0);
    due("free", x.free(0, 3), 50);
    x.gang(999);
    due("one less: the last one waits a DAY, and FORMS are free on 1", x.plan(), 4);
    due("day of 9", x.about(9, 5), 1);
    x.gang(1000);
    x.form(0, 49);
    due("one less: the last one waits till FORMS are free", x.plan(), 6);
    due("day of 9", x.about(9, 5), 3);
  }

  private static void lastOfManyCalls() {
    checks.begin("the 512th call");
    PourPlan x = new PourPlan();
    due("1st call", x.point(100, 1000), 1);
    for (int i = 0; i < 10; i++) Sites.strip(x, 1, 1);
    for (int i = 11; i < 510; i++) x.table(i % 2 == 0 ? HIGH : i);
    due("511th call", x.plan(), 3);
    due("512th call", x.better(), 0);
  }
}
