/** The edges that the Terms name in parts 1 to 3, one function for each sentence; answers reckoned by hand. */
public final class EdgesTest {
  private static final int NONE = -1, BAD = -2;
  private static final int HIGH = Integer.MAX_VALUE;
  private static final long NO = Long.MIN_VALUE;
  private static final int SLAB = 0, WALL = 1, COLUMN = 2, STRIP = 3;
  private static final Checks checks = new Checks();

  public static void main(String[] args) {
    degreesAtLeastNone();
    mostDegreesOfAll();
    tableBeforeTheFirstPoint();
    tableBetweenTwoPoints();
    tableBehindTheLastPoint();
    hardnessAtTheBeginOfADay();
    strippedAtTheLevel();
    strippedBehindItsDay();
    strippedByDay39();
    formsHeldTillStripped();
    aheadByDays();
    aheadByNoDays();
    aheadTillTheLastDay();
    standsAtTheLevel();
    standsOnWhat();
    standsOnWhatIsPoured();
    formsJustEnough();
    gangJustEnough();
    hindrancesInTheirOrder();
    onceInTheOrderADay();
    endOfPlans();
    nowAndWhatStands();
    planBehindNow();
    bestOfFive();
    bestOfAllOrders();
    betterByNeighbours();
    betterTenTimesAtMost();
    boundAlongPieces();
    loadFromPouringToStripping();
    loadOnTwoFloors();
    loadOnNone();
    loadsInParts();
    whatWasPlannedStays();
    numbersOfNow();
    whyWithAllOthers();
    whyItsOwnAside();
    lookingChangesNothing();
    checks.end();
  }

  private static void due(String call, long got, long want) {
    checks.due(call, got, want);
  }

  private static void daysAre(PourPlan x, int... days) {
    for (int i = 0; i < days.length; i++) due("day of " + i, x.about(i, 5), days[i]);
  }

  private static void borneIs(PourPlan x, int piece, int day, long above, long below) {
    due("borne " + piece + " on " + day + ", above", x.borne(piece, day, 0), above);
    due("borne " + piece + " on " + day + ", below", x.borne(piece, day, 1), below);
  }

  private static PourPlan oneStrip() {
    PourPlan x = Sites.hardening();
    Sites.strip(x, 1, 1);
    x.plan();
    return x;
  }

  // ---- part 1
  private static void degreesAtLeastNone() {
    checks.begin("DEGREES: WARMTH less BASE, at least 0");
    PourPlan x = oneStrip();
    int[][] told = {{0, 50, 500}, {0, 1, 10}, {0, 0, 0}, {0, -1, 0}, {0, -30, 0}, {20, 50, 300}, {20, 21, 10},
        {20, 20, 0}, {20, 19, 0}, {20, -30, 0}, {1, 1, 0}, {1, 2, 10}};
    for (int[] t : told) {
      x.base(t[0]);
      x.warm(0, t[1]);
      due("WARMTH " + t[1] + ", BASE " + t[0], x.hard(0, 1), t[2]);
    }
    x.base(0);
    x.warm(0, 7);
    x.warm(1, -30);
    due("a cold DAY takes nothing away", x.hard(0, 2), 70);
    due("nor later", x.hard(0, 3), 270);
  }

  private static void mostDegreesOfAll() {
    checks.begin("DEGREES, most of all");
    PourPlan x = new PourPlan();
    x.point(2000, 1000);
    Sites.strip(x, 1, 1);
    for (int day = 0; day < 40; day++) x.warm(day, 50);
    due("500 are there on 20", x.plan(), 20);
    due("1950 DEGREES on 39", x.hard(0, 39), 975);
    x.level(0, 975);
    due("just then", x.about(0, 6), 39);
    x.level(0, 976);
    due("no more", x.about(0, 6), 40);
  }

  private static void tableBeforeTheFirstPoint() {
    checks.begin("THE TABLE from 0 DEGREES, 0 thousandths");
    PourPlan x = new PourPlan();
    x.point(1, 1000);
    due("0", x.table(0), 0);
    due("1", x.table(1), 1000);
    PourPlan y = new PourPlan();
    y.point(2000, 1);
    due("cut to none", y.table(1999), 0);
    due("there", y.table(2000), 1);
    PourPlan z = new PourPlan();
    z.point(2000, 1000);
    long[][] wanted = {{0, 0}, {1, 0}, {2, 1}, {3, 1}, {1998, 999}, {1999, 999}, {2000, 1000}};
    for (long[] w : wanted) due("table " + w[0], z.table((int) w[0]), w[1]);
  }

  private static void tableBetweenTwoPoints() {
    checks.begin("THE TABLE between two POINTS, cut");
    PourPlan x = new PourPlan();
    x.point(10, 5);
    x.point(11, 995);
    x.point(14, 997);
    x.point(20, 997);
    long[][] wanted = {{9, 4}, {10, 5}, {11, 995}, {12, 995}, {13, 996}, {14, 997}, {15, 997}, {20, 997}};
    for (long[] w : wanted) due("table " + w[0], x.table((int) w[0]), w[1]);
  }

  private static void tableBehindTheLastPoint() {
    checks.begin("THE TABLE behind the last POINT");
    PourPlan x = new PourPlan();
    x.point(1, 7);
    due("on it", x.table(1), 7);
    due("behind it", x.table(2), 7);
    due("far behind it", x.table(HIGH), 7);
    due("a second one", x.point(2000, 1000), 2);
    due("on it", x.table(2000), 1000);
    due("behind it", x.table(2001), 1000);
    due("far behind it", x.table(HIGH), 1000);
  }

  private static void hardnessAtTheBeginOfADay() {
    checks.begin("HARDNESS of the DAYS from its own to the one ahead");
    PourPlan x = Sites.hardening();
    Sites.strip(x, 1, 1);
    x.now(5);
    x.plan();
    x.warm(4, 50);
    x.warm(5, 1);
    x.warm(6, 2);
    x.warm(7, 50);
    due("not poured on 4", x.hard(0, 4), NONE);
    due("none on its own DAY", x.hard(0, 5), 0);
    due("of 5", x.hard(0, 6), 10);
    due("of 5 and 6", x.hard(0, 7), 30);
  }

  private static void strippedAtTheLevel() {
    checks.begin("STRIPPED when LEVEL STRIP or more");
    PourPlan x = oneStrip();
    int[][] told = {{0, 1}, {1, 1}, {199, 1}, {200, 1}, {201, 2}, {400, 2}, {401, 3}, {800, 4}, {801, 5}, {1000, 5}};
    for (int[] t : told) {
      x.level(0, t[0]);
      due("STRIP " + t[0], x.about(0, 6), t[1]);
    }
    x.unpoint();
    x.point(100, 999);
    due("999 are never 1000", x.about(0, 6), 40);
    x.level(0, 999);
    due("but 999", x.about(0, 6), 5);
  }

  private static void strippedBehindItsDay() {
    checks.begin("STRIPPED behind the DAY on which it was poured");
    PourPlan x = new PourPlan();
    x.level(0, 0);
    Sites.strip(x, 1, 9);
    Sites.strip(x, 1, 2);
    due("plan", x.plan(), 2);
    daysAre(x, 0, 1);
    due("hard enough on 0, but not STRIPPED", x.about(0, 6), 1);
    due("held on 0", x.free(0, 0), 1);
    due("free on 1", x.free(0, 1), 8);
  }

  private static void strippedByDay39() {
    checks.begin("STRIPPED till DAY 39");
    PourPlan x = Sites.hardening();
    Sites.strip(x, 1, 1);
    x.now(36);
    due("poured on 36", x.plan(), 39);
    due("STRIPPED on 39", x.about(0, 6), 39);
    due("free again on 39", x.free(0, 39), 10);
    x.now(36);
    x.warm(38, 9);
    due("490 on 39", x.plan(), 40);
    due("not till 39", x.about(0, 6), 40);
    due("held on 39", x.free(0, 39), 9);
    x.now(37);
    x.plan();
    due("it stands since 36", x.about(0, 5), 36);
    PourPlan y = new PourPlan();
    y.level(0, 0);
    Sites.strip(y, 1, 1);
    y.now(39);
    due("poured on 39, so not till 39", y.plan(), 40);
    due("poured on 39", y.about(0, 5), 39);
    due("STRIPPED", y.about(0, 6), 40);
  }

  private static void formsHeldTillStripped() {
    checks.begin("FORMS are held from its DAY till it is STRIPPED");
    PourPlan x = Sites.hardening();
    Sites.strip(x, 1, 9);
    x.now(5);
    due("plan", x.plan(), 8);
    int[][] wanted = {{0, 10}, {4, 10}, {5, 1}, {6, 1}, {7, 1}, {8, 10}, {39, 10}};
    for (int[] w : wanted) due("free on " + w[0], x.free(0, w[0]), w[1]);
    due("of another SIZE", x.free(1, 5), 10);
  }

  private static void aheadByDays() {
    checks.begin("AHEAD so many DAYS or more");
    PourPlan x = Sites.hardening();
    Sites.strip(x, 1, 1);
    Sites.strip(x, 1, 1);
    for (int days : new int[] {1, 2, 8, 9}) {
      x.ahead(0, 1, days);
      due("plan by " + days, x.plan(), days + 3);
      daysAre(x, 0, days);
      due("one DAY too soon", x.why(1, days - 1), 1);
      due("on that DAY", x.why(1, days), 0);
      due("or more", x.why(1, days + 1), 0);
    }
    due("on the last DAY", x.why(1, 39), 0);
  }

  private static void aheadByNoDays() {
    checks.begin("AHEAD 0: on the same DAY ahead in the ORDER, or earlier");
    PourPlan x = Sites.hardening();
    Sites.strip(x, 60, 1);
    Sites.strip(x, 60, 1);
    x.ahead(1, 0, 0);
    due("behind it in the ORDER", x.plan(), 4);
    daysAre(x, 1, 0);
    due("0 on the DAY of 1", x.why(0, 0), 1);
    x.order(1, 0);
    x.gang(120);
    due("ahead of it in the ORDER", x.plan(), 3);
    daysAre(x, 0, 0);
    due("0 on the DAY of 1", x.why(0, 0), 0);
    x.now(1);
    x.order(1, 1);
    due("0 is poured on 0 all the same", x.about(0, 5), 0);
    Sites.strip(x, 1, 1);
    x.ahead(1, 2, 0);
    x.order(2, 0);
    due("1 was poured earlier", x.plan(), 4);
    due("though behind it in the ORDER", x.about(2, 5), 1);
    due("on the DAY of 1 it would be too soon", x.why(2, 0), 1);
  }

  private static void aheadTillTheLastDay() {
    checks.begin("AHEAD till the last DAY");
    PourPlan x = Sites.hardening();
    for (int i = 0; i < 6; i++) Sites.strip(x, 1, 1);
    for (int i = 0; i < 4; i++) x.ahead(i, i + 1, 9);
    x.ahead(4, 5, 3);
    due("plan", x.plan(), 40);
    daysAre(x, 0, 9, 18, 27, 36, 39);
    due("bound", x.bound(), 40);
    x.ahead(4, 5, 4);
    due("plan", x.plan(), 40);
    daysAre(x, 0, 9, 18, 27, 36, NONE);
    due("too late on 39", x.why(5, 39), 1);
    due("bound", x.bound(), 41);
  }

  // ---- part 2
  private static void standsAtTheLevel() {
    checks.begin("STANDS: less HARDNESS than LEVEL BEAR");
    PourPlan x = Sites.hardening();
    x.piece(WALL, 0, 1, 0, 1);
    x.piece(SLAB, 0, 1, 0, 1);
    int[][] told = {{0, 0}, {1, 1}, {200, 1}, {201, 2}, {400, 2}, {401, 3}, {1000, 5}};
    for (int[] t : told) {
      x.level(1, t[0]);
      x.plan();
      due("BEAR " + t[0], x.about(1, 5), t[1]);
      due("on that DAY", x.why(1, t[1]), 0);
      if (t[1] > 0) due("on the DAY ahead", x.why(1, t[1] - 1), 2);
    }
    x.unpoint();
    x.point(100, 999);
    due("999 are never 1000", x.plan(), 40);
    due("not poured", x.about(1, 5), NONE);
    due("on the last DAY", x.why(1, 39), 2);
    x.level(1, 999);
    due("plan", x.plan(), 8);
    due("but 999", x.about(1, 5), 5);
  }

  /** Whether a SLAB of FLOOR 2 waits for a piece that can not be poured. */
  private static void waits(int kind, int floor, boolean is) {
    PourPlan x = Sites.hardening();
    x.piece(SLAB, 2, 1, 0, 1);
    x.piece(kind, floor, 101, 0, 1);
    x.plan();
    due("kind " + kind + " of floor " + floor, x.about(0, 5), is ? NONE : 0);
    due("why, kind " + kind + " of floor " + floor, x.why(0, 39), is ? 2 : 0);
  }

  private static void standsOnWhat() {
    checks.begin("STANDS: WALL or COLUMN of its FLOOR, SLAB of the one below");
    for (int floor = 0; floor < 6; floor++) {
      waits(WALL, floor, floor == 2);
      waits(COLUMN, floor, floor == 2);
      waits(SLAB, floor, floor == 1);
      waits(STRIP, floor, false);
    }
    // Only a SLAB waits.
    for (int kind = WALL; kind <= STRIP; kind++) {
      PourPlan x = Sites.hardening();
      x.piece(kind, 1, 1, 0, 1);
      x.piece(SLAB, 0, 101, 0, 1);
      x.piece(WALL, 1, 101, 0, 1);
      x.piece(COLUMN, 1, 101, 0, 1);
      x.plan();
      due("kind " + kind + " does not wait", x.about(0, 5), 0);
    }
    PourPlan y = Sites.hardening();
    y.piece(SLAB, 0, 1, 0, 1);
    y.piece(SLAB, 5, 1, 0, 1);
    due("nothing is below FLOOR 0", y.plan(), 3);
    daysAre(y, 0, 0);
  }

  private static void standsOnWhatIsPoured() {
    checks.begin("STANDS, with BEAR 0: it must be poured all the same");
    PourPlan x = Sites.hardening();
    x.level(1, 0);
    x.piece(SLAB, 0, 1, 0, 1);
    x.piece(WALL, 0, 1, 0, 1);
    due("the SLAB is looked at first", x.plan(), 4);
    daysAre(x, 1, 0);
    x.order(0, 1);
    due("behind the WALL", x.plan(), 3);
    daysAre(x, 0, 0);
    x.gang(1);
    due("GANG pours one a DAY", x.plan(), 4);
    daysAre(x, 1, 0);
    x.form(0, 0);
    due("the WALL can not be poured", x.plan(), 40);
    daysAre(x, NONE, NONE);
    due("why not the SLAB", x.why(0, 39), 2);
    due("why not the WALL", x.why(1, 39), 3);
  }

  private static void formsJustEnough() {
    checks.begin("FORMS: fewer are free than its FACES");
    PourPlan x = oneStrip();
    for (int faces : new int[] {1, 9}) {
      int p = Sites.strip(x, 1, faces);
      x.form(0, faces + 1);
      due("as many are free beside the first one's", x.why(p, 0), 0);
      x.form(0, faces);
      due("one fewer", x.why(p, 0), 3);
      due("when the first one is STRIPPED", x.why(p, 3), 0);
      due("on the DAY ahead", x.why(p, 2), 3);
      x.form(0, faces - 1);
      due("one fewer of all", x.why(p, 39), 3);
    }
    PourPlan y = Sites.hardening();
    for (int i = 0; i < 6; i++) Sites.strip(y, 1, 9);
    y.form(0, 50);
    due("50 are enough for five", y.plan(), 6);
    daysAre(y, 0, 0, 0, 0, 0, 3);
    y.form(0, 0);
    due("none are", y.plan(), 40);
    due("poured", y.count(1), 0);
  }

  private static void gangJustEnough() {
    checks.begin("GANG: more than it on a DAY");
    PourPlan x = Sites.hardening();
    Sites.strip(x, 1, 1);
    Sites.strip(x, 2, 1);
    x.gang(1);
    due("1 is poured, 2 are not", x.plan(), 40);
    daysAre(x, 0, NONE);
    due("why", x.why(1, 39), 4);
    x.gang(2);
    due("not both on one DAY", x.plan(), 4);
    daysAre(x, 0, 1);
    x.gang(3);
    due("both", x.plan(), 3);
    daysAre(x, 0, 0);
    PourPlan y = Sites.hardening();
    for (int i = 0; i < 6; i++) Sites.strip(y, 200, 1);
    y.gang(1000);
    due("five times 200 are 1000", y.plan(), 4);
    daysAre(y, 0, 0, 0, 0, 0, 1);
    due("on 0", y.poured(0), 1000);
    y.gang(200);
    due("one a DAY", y.plan(), 8);
    y.gang(199);
    due("none", y.plan(), 40);
    due("poured", y.count(1), 0);
  }

  private static void hindrancesInTheirOrder() {
    checks.begin("the first hindrance told");
    PourPlan x = Sites.hardening();
    x.piece(WALL, 0, 1, 0, 1);
    x.piece(SLAB, 0, 50, 0, 5);
    x.ahead(0, 1, 9);
    x.plan();
    x.level(1, 1000);
    x.form(0, 0);
    x.gang(1);
    due("all four", x.why(1, 3), 1);
    x.ahead(0, 1, 3);
    due("STANDS, FORMS, GANG", x.why(1, 3), 2);
    x.level(1, 600);
    due("FORMS, GANG", x.why(1, 3), 3);
    x.form(0, 5);
    due("GANG", x.why(1, 3), 4);
    x.gang(50);
    due("none", x.why(1, 3), 0);
    x.ahead(0, 1, 4);
    due("AHEAD alone", x.why(1, 3), 1);
  }

  private static void onceInTheOrderADay() {
    checks.begin("once in the ORDER a DAY");
    PourPlan x = Sites.hardening();
    for (int i = 0; i < 5; i++) Sites.strip(x, 1, 1);
    for (int i = 0; i < 4; i++) x.ahead(i + 1, i, 0);
    due("each waits a DAY for the one behind it", x.plan(), 7);
    daysAre(x, 4, 3, 2, 1, 0);
    for (int i = 0; i < 5; i++) x.order(i, 0);
    due("all on one DAY", x.plan(), 3);
    daysAre(x, 0, 0, 0, 0, 0);
  }

  private static void endOfPlans() {
    checks.begin("END");
    due("0 without pieces", new PourPlan().plan(), 0);
    PourPlan x = Sites.hardening();
    Sites.strip(x, 1, 1);
    due("one", x.plan(), 3);
    Sites.strip(x, 101, 1);
    due("40 if one is not poured", x.plan(), 40);
    due("though the other is STRIPPED", x.about(0, 6), 3);
    due("as the latest plan() had it", x.count(6), 40);
    x.gang(101);
    due("the last one counts", x.plan(), 4);
    x.level(0, 0);
    due("1 at least", x.plan(), 2);
    due("as the latest plan() had it", x.count(6), 2);
    PourPlan y = Sites.hardening();
    Sites.strip(y, 1, 1);
    y.plan();
    y.now(9);
    due("what stands and was STRIPPED counts", y.plan(), 3);
    y.warm(0, -30);
    due("by the numbers of now", y.plan(), 4);
  }

  private static void nowAndWhatStands() {
    checks.begin("NOW: what was poured ahead of it stays");
    PourPlan x = Sites.hardening();
    Sites.strip(x, 60, 1);
    Sites.strip(x, 60, 1);
    Sites.strip(x, 60, 1);
    x.plan();
    daysAre(x, 0, 1, 2);
    due("all from 0 on are planned only", x.now(0), 3);
    daysAre(x, NONE, NONE, NONE);
    due("END stays as it was", x.count(6), 5);
    x.plan();
    due("those of 1 and 2", x.now(1), 2);
    daysAre(x, 0, NONE, NONE);
    due("there is none any more", x.now(1), 0);
    x.plan();
    due("the one of 2", x.now(2), 1);
    daysAre(x, 0, 1, NONE);
    x.plan();
    due("none", x.now(3), 0);
    daysAre(x, 0, 1, 2);
    x.gang(180);
    due("all stand", x.plan(), 5);
    daysAre(x, 0, 1, 2);
    due("poured", x.count(1), 3);
  }

  private static void planBehindNow() {
    checks.begin("a PLAN goes on from NOW");
    PourPlan x = Sites.hardening();
    Sites.strip(x, 1, 9);
    x.plan();
    x.now(1);
    Sites.strip(x, 1, 9);
    due("what stands holds its FORMS", x.plan(), 6);
    daysAre(x, 0, 3);
    x.now(2);
    x.form(0, 18);
    due("from 2 on", x.plan(), 5);
    daysAre(x, 0, 2);
    x.now(39);
    Sites.strip(x, 1, 1);
    due("on the last DAY", x.plan(), 40);
    daysAre(x, 0, 2, 39);
    due("the last DAY is NOW, so that one is planned only", x.now(39), 1);
    daysAre(x, 0, 2, NONE);
    PourPlan y = Sites.hardening();
    Sites.strip(y, 1, 1);
    Sites.strip(y, 1, 1);
    y.ahead(0, 1, 1);
    y.now(39);
    due("there is no next DAY", y.plan(), 40);
    daysAre(y, 39, NONE);
  }

  private static void bestOfFive() {
    checks.begin("THE BEST");
    // 4 must be poured 9 DAYS ahead of 3, and all need most of the FORMS but 3: so 4 goes first.
    PourPlan x = Sites.hardening();
    for (int i = 0; i < 5; i++) Sites.strip(x, 1, i == 3 ? 1 : 9);
    x.ahead(4, 3, 9);
    due("by numbers: 4 on 9, 3 on 18", x.plan(), 21);
    due("4 on 0, the others on 3, 6, 9", x.best(), 12);
    // 3 waits anyhow, wherever it stands: so it is the least number that may be first but 4's.
    int[] places = {2, 3, 4, 0, 1};
    for (int i = 0; i < 5; i++) due("place of " + i, x.about(i, 7), places[i]);
    daysAre(x, 3, 6, 9, 9, 0);
    due("END", x.count(6), 12);
    PourPlan y = new PourPlan();
    for (int i = 0; i < 5; i++) Sites.strip(y, 101, 1);
    y.order(4, 0);
    due("none can be poured, so all ORDERS are alike", y.best(), 40);
    for (int i = 0; i < 5; i++) due("place of " + i, y.about(i, 7), i);
  }

  /** Each ORDER of up to five pieces once as the only one in which all can be poured on DAY 0. */
  private static void bestOfAllOrders() {
    checks.begin("THE BEST of all ORDERS");
    for (int n = 1; n <= 5; n++) {
      int found = 0;
      int codes = 1;
      for (int i = 0; i < n; i++) codes *= n;
      for (int code = 0; code < codes; code++) {
        int[] order = new int[n];
        int rest = code;
        for (int i = 0; i < n; i++, rest /= n) order[i] = rest % n;
        if (java.util.Arrays.stream(order).distinct().count() < n) continue;
        found++;
        PourPlan x = Sites.hardening();
        for (int i = 0; i < n; i++) Sites.strip(x, 1, 1);
        for (int i = 0; i + 1 < n; i++) x.ahead(order[i], order[i + 1], 0);
        due("best", x.best(), 3);
        for (int i = 0; i < n; i++) due("place of " + order[i], x.about(order[i], 7), i);
      }
      due("orders of " + n, found, new int[] {1, 1, 2, 6, 24, 120}[n]);
    }
  }

  private static void betterByNeighbours() {
    checks.begin("TO BETTER");
    PourPlan one = oneStrip();
    due("one piece has no neighbour", one.better(), 0);
    due("it is planned", one.count(6), 3);
    PourPlan x = Sites.hardening();
    Sites.strip(x, 1, 1);
    Sites.strip(x, 1, 1);
    x.ahead(1, 0, 0);
    due("the only two", x.better(), 1);
    due("END", x.count(6), 3);
    due("place of 1", x.about(1, 7), 0);
    due("no other", x.better(), 0);
    PourPlan y = Sites.hardening();
    for (int i = 0; i < 10; i++) Sites.strip(y, 1, 1);
    y.ahead(9, 8, 0);
    due("the last two of ten", y.better(), 1);
    due("place of 9", y.about(9, 7), 8);
    for (int i = 0; i < 8; i++) due("place of " + i, y.about(i, 7), i);
    y.ahead(1, 0, 0);
    due("the first two of ten", y.better(), 1);
    due("place of 1", y.about(1, 7), 0);
    PourPlan z = Sites.hardening();
    for (int i = 0; i < 10; i++) Sites.strip(z, 101, 1);
    due("40 stays 40", z.better(), 0);
    due("END", z.count(6), 40);
  }

  /**
   * 0 to 7 follow one another by FORMS, 2 DAYS each; 8 waits for 6 (6 DAYS) and 7 (9 DAYS), and 9 waits 9 DAYS for 8.
   * With 6 at place p and 7 at place q, END is the greater of 2p + 6 and 2q + 9, and 11 more. The two are never equal,
   * so one of them alone hinders, and END is less if it comes a place ahead: till 7 is at 0 and 6 at 1, 13 times.
   */
  private static void betterTenTimesAtMost() {
    checks.begin("TO BETTER, 10 times at most");
    PourPlan x = Sites.hardening();
    x.level(0, 400);
    for (int i = 0; i < 8; i++) Sites.strip(x, 1, 9);
    for (int i = 8; i < 10; i++) x.piece(STRIP, 0, 1, 1, 1);
    x.ahead(6, 8, 6);
    x.ahead(7, 8, 9);
    x.ahead(8, 9, 9);
    due("7 on 14, 8 on 23, 9 on 32", x.plan(), 34);
    due("ten changes", x.better(), 10);
    due("7 is at place 1", x.about(7, 7), 1);
    due("6 is at place 3", x.about(6, 7), 3);
    due("END by 6", x.count(6), 23);
    due("8 on 12", x.about(8, 5), 12);
    due("the other three", x.better(), 3);
    due("7 is at place 0", x.about(7, 7), 0);
    due("6 is at place 1", x.about(6, 7), 1);
    due("END by 7", x.count(6), 20);
    due("no more", x.better(), 0);
  }

  private static void boundAlongPieces() {
    checks.begin("BOUND");
    PourPlan x = new PourPlan();
    due("without pieces", x.bound(), 0);
    Sites.strip(x, 1, 1);
    due("one", x.bound(), 1);
    Sites.strip(x, 1, 1);
    due("two that nothing is told of", x.bound(), 1);
    x.ahead(1, 0, 0);
    due("0 and 1", x.bound(), 1);
    x.ahead(1, 0, 1);
    due("1 and 1", x.bound(), 2);
    x.ahead(1, 0, 9);
    due("9 and 1", x.bound(), 10);
    for (int i = 2; i < 10; i++) {
      Sites.strip(x, 1, 1);
      x.ahead(i, i - 1, 9);
    }
    due("nine times 9 and 1", x.bound(), 82);
    x.ahead(9, 0, 9);
    due("a short way aside", x.bound(), 82);
    x.ahead(5, 4, 0);
    due("a 0 within", x.bound(), 73);
  }

  // ---- part 3
  private static void loadFromPouringToStripping() {
    checks.begin("LOAD from its DAY till it is STRIPPED");
    PourPlan x = Sites.hardening();
    x.piece(SLAB, 0, 10, 0, 1);
    x.piece(SLAB, 1, 7, 0, 1);
    due("plan", x.plan(), 5);
    daysAre(x, 0, 2);
    borneIs(x, 0, 0, 10, 1);
    borneIs(x, 0, 1, 10, 1);
    borneIs(x, 0, 2, 17, 1);
    borneIs(x, 0, 4, 17, 1);
    borneIs(x, 0, 5, 10, 1);
    borneIs(x, 0, 39, 10, 1);
    due("not poured by 1", x.borne(1, 1, 0), NO);
    due("not poured by 1", x.borne(1, 1, 1), NO);
    borneIs(x, 1, 2, 7, 1);
    x.level(0, 1000);
    x.unpoint();
    x.point(100, 999);
    borneIs(x, 0, 39, 17, 1);
  }

  private static void loadOnTwoFloors() {
    checks.begin("LOAD on the two FLOORS below");
    for (int top = 0; top < 6; top++) {
      PourPlan x = Sites.hardening();
      x.level(1, 0);
      for (int floor = 0; floor < 6; floor++) x.piece(SLAB, floor, 10, 0, 1);
      x.plan();
      for (int p = 0; p < 6; p++) due("all on 0", x.about(p, 5), 0);
      // A second SLAB of this FLOOR is poured when the others are STRIPPED, all equally hard.
      x.now(9);
      x.piece(SLAB, top, 12, 1, 1);
      x.plan();
      due("the load on 9", x.about(6, 5), 9);
      int bearers = Math.min(2, top);
      for (int p = 0; p < 6; p++) {
        boolean bears = p < top && p >= top - 2;
        borneIs(x, p, 9, bears ? 10 + 12 / bearers : 10, 1);
      }
      borneIs(x, 6, 9, 12, 1);
    }
  }

  private static void loadOnNone() {
    checks.begin("LOAD, all on none if no HARDNESS is below");
    PourPlan x = new PourPlan();
    x.level(1, 0);
    x.point(21, 1);
    x.piece(SLAB, 0, 10, 0, 1);
    x.piece(SLAB, 1, 7, 0, 1);
    x.plan();
    daysAre(x, 0, 0);
    due("20 DEGREES", x.hard(0, 1), 0);
    borneIs(x, 0, 1, 10, 1);
    due("40 DEGREES", x.hard(0, 2), 1);
    borneIs(x, 0, 2, 17, 1);
    x.unpoint();
    borneIs(x, 0, 39, 10, 1);
    PourPlan y = Sites.hardening();
    for (int kind = WALL; kind <= STRIP; kind++) y.piece(kind, 0, 1, 0, 1);
    y.piece(SLAB, 2, 5, 0, 1);
    y.piece(SLAB, 0, 3, 0, 1);
    y.ahead(3, 4, 4);
    y.plan();
    due("the upper one on 0", y.about(3, 5), 0);
    due("the lower one on 4", y.about(4, 5), 4);
    y.level(0, 1000);
    borneIs(y, 4, 4, 3, 1);
    borneIs(y, 3, 4, 5, 1);
  }

  private static void loadsInParts() {
    checks.begin("BORNE as a fraction without a common divisor");
    PourPlan x = Sites.hardening();
    x.gang(1000);
    x.level(1, 0);
    x.level(0, 1000);
    x.piece(SLAB, 0, 1, 0, 1);
    x.piece(SLAB, 0, 2, 0, 1);
    x.piece(SLAB, 2, 200, 0, 1);
    x.ahead(0, 1, 1);
    x.plan();
    daysAre(x, 0, 1, 0);
    // On 1 only 0 has HARDNESS; on 2 400 and 200, on 3 600 and 400, on 4 800 and 600.
    borneIs(x, 0, 1, 201, 1);
    borneIs(x, 1, 1, 2, 1);
    borneIs(x, 0, 2, 403, 3);
    borneIs(x, 1, 2, 206, 3);
    borneIs(x, 0, 3, 121, 1);
    borneIs(x, 1, 3, 82, 1);
    borneIs(x, 0, 4, 807, 7);
    borneIs(x, 1, 4, 614, 7);
    borneIs(x, 0, 5, 1, 1);
    borneIs(x, 2, 4, 200, 1);
  }

  // ---- part 4
  private static void whatWasPlannedStays() {
    checks.begin("what was planned is so till a PLAN is made anew");
    PourPlan x = Sites.hardening();
    x.piece(WALL, 0, 50, 0, 9);
    x.piece(SLAB, 0, 60, 0, 9);
    due("plan", x.plan(), 6);
    x.gang(1);
    x.form(0, 0);
    x.level(1, 1000);
    x.ahead(1, 0, 9);
    x.order(1, 0);
    x.warm(0, -30);
    x.base(20);
    x.unpoint();
    x.piece(STRIP, 0, 1, 1, 1);
    daysAre(x, 0, 3, NONE);
    due("poured on 0", x.poured(0), 50);
    due("poured on 3", x.poured(3), 60);
    due("poured", x.count(1), 2);
    due("END", x.count(6), 6);
    due("a PLAN anew", x.plan(), 40);
    daysAre(x, NONE, NONE, 0);
  }

  private static void numbersOfNow() {
    checks.begin("HARDNESS, STRIPPED, LOADS are by numbers of now");
    PourPlan x = Sites.hardening();
    x.piece(SLAB, 0, 10, 0, 1);
    x.piece(SLAB, 1, 7, 0, 1);
    x.plan();
    daysAre(x, 0, 2);
    x.warm(2, 0);
    due("by WARMTH: HARDNESS", x.hard(1, 3), 0);
    due("by WARMTH: STRIPPED", x.about(1, 6), 6);
    borneIs(x, 0, 5, 17, 1);
    due("by WARMTH: FORMS", x.free(0, 5), 9);
    x.warm(2, 20);
    x.base(10);
    due("by BASE: HARDNESS", x.hard(1, 3), 100);
    due("by BASE: STRIPPED", x.about(1, 6), 7);
    borneIs(x, 0, 6, 17, 1);
    x.base(0);
    x.level(0, 601);
    due("by STRIP: STRIPPED", x.about(1, 6), 6);
    borneIs(x, 0, 5, 17, 1);
    borneIs(x, 0, 6, 10, 1);
    x.level(0, 500);
    x.point(200, 1000);
    due("by a POINT that changes nothing", x.hard(1, 3), 200);
    x.unpoint();
    due("by no POINTS: HARDNESS", x.hard(1, 39), 0);
    due("by no POINTS: STRIPPED", x.about(1, 6), 40);
    borneIs(x, 0, 39, 10, 1);
    due("by no POINTS: FORMS", x.free(0, 39), 8);
    x.point(20, 500);
    due("by other POINTS: STRIPPED", x.about(1, 6), 3);
    due("END is as the latest plan() had it", x.count(6), 5);
  }

  // ---- promise 20
  private static void whyWithAllOthers() {
    checks.begin("why: FORMS and GANG with all others of that DAY");
    PourPlan x = Sites.hardening();
    Sites.strip(x, 50, 5);
    Sites.strip(x, 50, 5);
    x.plan();
    daysAre(x, 0, 0);
    due("just enough of both, behind it in the ORDER too", x.why(0, 0), 0);
    x.form(0, 9);
    due("one form fewer", x.why(0, 0), 3);
    due("one form fewer", x.why(1, 0), 3);
    x.form(0, 10);
    x.gang(99);
    due("one less", x.why(0, 0), 4);
    due("one less", x.why(1, 0), 4);
    due("on the next DAY GANG is free, FORMS are enough", x.why(0, 1), 0);
  }

  private static void whyItsOwnAside() {
    checks.begin("why: its own pouring aside");
    PourPlan x = Sites.hardening();
    Sites.strip(x, 100, 9);
    x.now(5);
    x.plan();
    for (int day : new int[] {0, 4, 5, 6, 7, 8, 39}) due("on " + day, x.why(0, day), 0);
    due("it is poured as it was", x.about(0, 5), 5);
    Sites.strip(x, 1, 2);
    due("another one has no FORMS on 5", x.why(1, 5), 3);
    due("nor on 7", x.why(1, 7), 3);
    due("but on 4", x.why(1, 4), 0);
    due("and on 8", x.why(1, 8), 0);
    x.form(0, 50);
    due("and no GANG on 5", x.why(1, 5), 4);
    due("but on 6", x.why(1, 6), 0);
  }

  private static void lookingChangesNothing() {
    checks.begin("looking");
    PourPlan x = Sites.full();
    for (int p = 0; p < 10; p++) {
      x.why(p, 0);
      x.why(p, 5);
      x.hard(p, 9);
      x.borne(p, 9, 0);
      x.about(p, 6);
    }
    x.free(0, 5);
    x.poured(3);
    x.table(77);
    x.bound();
    x.count(6);
    due("a look at a piece that is none", x.about(10, 0), NONE);
    due("a table below 0", x.table(-1), BAD);
    Twins.same(checks, "looking", x, Sites.full());
  }
}
