import java.util.function.Supplier;

/** Part 4 of the Terms: of several refusals the first one told (NONE, BAD, STATE, FULL), and they change nothing. */
public final class RefusalsTest {
  private static final int NONE = -1, BAD = -2, STATE = -3, FULL = -4;
  private static final int LOW = Integer.MIN_VALUE, HIGH = Integer.MAX_VALUE;
  private static final long NO = Long.MIN_VALUE;
  private static final Checks checks = new Checks();

  private interface Call {
    long of(PourPlan x);
  }

  public static void main(String[] args) {
    piece();
    pieceWhenFull();
    ahead();
    toldNumbers();
    point();
    now();
    looking();
    manyInARow();
    refusedOnesLeaveThePlan();
    checks.end();
  }

  private static void refuses(Supplier<PourPlan> site, String name, Call call, long refusal) {
    PourPlan asked = site.get();
    checks.due(name, call.of(asked), refusal);
    Twins.same(checks, name, asked, site.get());
  }

  private static void piece() {
    checks.begin("piece, NONE ahead of BAD");
    refuses(Sites::begun, "kind and volume", x -> x.piece(4, 0, 0, 0, 1), NONE);
    refuses(Sites::begun, "kind and faces", x -> x.piece(-1, 0, 1, 0, 10), NONE);
    refuses(Sites::begun, "floor and volume", x -> x.piece(0, 6, 201, 0, 1), NONE);
    refuses(Sites::begun, "floor and faces", x -> x.piece(0, -1, 1, 0, 0), NONE);
    // SIZE comes behind VOLUME in the call, and yet its NONE is told first.
    refuses(Sites::begun, "size and volume", x -> x.piece(0, 0, 0, 3, 1), NONE);
    refuses(Sites::begun, "size and faces", x -> x.piece(0, 0, 1, -1, 0), NONE);
    refuses(Sites::begun, "all, least", x -> x.piece(LOW, LOW, LOW, LOW, LOW), NONE);
    refuses(Sites::begun, "all, greatest", x -> x.piece(HIGH, HIGH, HIGH, HIGH, HIGH), NONE);
    refuses(Sites::begun, "volume and faces", x -> x.piece(3, 5, 0, 2, 0), BAD);
  }

  private static void pieceWhenFull() {
    checks.begin("piece, FULL is the last one");
    refuses(Sites::full, "kind", x -> x.piece(4, 0, 1, 0, 1), NONE);
    refuses(Sites::full, "floor", x -> x.piece(0, 6, 1, 0, 1), NONE);
    refuses(Sites::full, "size", x -> x.piece(0, 0, 1, 3, 1), NONE);
    refuses(Sites::full, "size and volume", x -> x.piece(0, 0, 0, 3, 1), NONE);
    refuses(Sites::full, "volume", x -> x.piece(0, 0, 201, 0, 1), BAD);
    refuses(Sites::full, "faces", x -> x.piece(0, 0, 1, 0, 10), BAD);
    refuses(Sites::full, "nothing else", x -> x.piece(3, 5, 200, 2, 9), FULL);
  }

  private static void ahead() {
    checks.begin("ahead, NONE ahead of BAD");
    refuses(Sites::empty, "0 is b, but no piece", x -> x.ahead(0, 0, 0), NONE);
    refuses(Sites::begun, "4 is b, but no piece", x -> x.ahead(4, 4, 0), NONE);
    refuses(Sites::begun, "a and days", x -> x.ahead(-1, 0, -1), NONE);
    refuses(Sites::begun, "b and days", x -> x.ahead(0, 4, 10), NONE);
    refuses(Sites::begun, "all, least", x -> x.ahead(LOW, LOW, LOW), NONE);
    refuses(Sites::begun, "all, greatest", x -> x.ahead(HIGH, HIGH, HIGH), NONE);
    refuses(Sites::begun, "a is b, and days", x -> x.ahead(0, 0, 10), BAD);
    refuses(Sites::begun, "b is AHEAD of a, and days", x -> x.ahead(3, 2, -1), BAD);
    refuses(Sites::begun, "b is AHEAD of a", x -> x.ahead(3, 2, 0), BAD);
    refuses(Sites::full, "b is AHEAD of a by two others", x -> x.ahead(9, 1, 0), BAD);
  }

  private static void toldNumbers() {
    checks.begin("form, level, warm: NONE ahead of BAD");
    refuses(Sites::begun, "form", x -> x.form(3, 51), NONE);
    refuses(Sites::begun, "form", x -> x.form(-1, -1), NONE);
    refuses(Sites::begun, "form", x -> x.form(LOW, HIGH), NONE);
    refuses(Sites::begun, "level", x -> x.level(2, 1001), NONE);
    refuses(Sites::begun, "level", x -> x.level(-1, -1), NONE);
    refuses(Sites::begun, "level", x -> x.level(HIGH, LOW), NONE);
    refuses(Sites::begun, "warm", x -> x.warm(40, 51), LOW);
    refuses(Sites::begun, "warm", x -> x.warm(-1, -31), LOW);
    refuses(Sites::begun, "warm", x -> x.warm(LOW, LOW), LOW);
    refuses(Sites::begun, "warm, of a DAY", x -> x.warm(39, LOW), LOW + 1);
  }

  private static void point() {
    checks.begin("point, BAD ahead of FULL");
    refuses(Sites::full, "degrees", x -> x.point(2001, 1000), BAD);
    refuses(Sites::full, "thousandths", x -> x.point(2000, 1001), BAD);
    refuses(Sites::full, "degrees not rising", x -> x.point(120, 1000), BAD);
    refuses(Sites::full, "thousandths falling", x -> x.point(2000, 899), BAD);
    refuses(Sites::full, "nothing else", x -> x.point(121, 900), FULL);
  }

  private static void now() {
    checks.begin("now, NONE ahead of BAD");
    // What is below 0 is ahead of NOW, but no DAY at all.
    refuses(Sites::begun, "-1", x -> x.now(-1), NONE);
    refuses(Sites::begun, "the least", x -> x.now(LOW), NONE);
    refuses(Sites::begun, "40", x -> x.now(40), NONE);
    refuses(Sites::begun, "2, when it is 3", x -> x.now(2), BAD);
  }

  private static void looking() {
    checks.begin("looking, all wrong at once");
    refuses(Sites::full, "about", x -> x.about(10, 8), NONE);
    refuses(Sites::full, "hard", x -> x.hard(10, 40), NONE);
    refuses(Sites::full, "why", x -> x.why(-1, -1), NONE);
    refuses(Sites::full, "free", x -> x.free(3, 40), NONE);
    refuses(Sites::full, "poured", x -> x.poured(LOW), NONE);
    refuses(Sites::full, "borne", x -> x.borne(HIGH, HIGH, HIGH), NO);
    refuses(Sites::full, "borne, of no SLAB and no part", x -> x.borne(1, 39, 2), NO);
    refuses(Sites::full, "count", x -> x.count(LOW), NONE);
    refuses(Sites::full, "order", x -> x.order(10, 10), NONE);
    refuses(Sites::full, "best", x -> x.best(), STATE);
  }

  /** A refused call may leave something that only a second one shows. */
  private static void manyInARow() {
    checks.begin("many refusals in a row");
    for (Supplier<PourPlan> site : java.util.List.<Supplier<PourPlan>>of(Sites::begun, Sites::full)) {
      PourPlan asked = site.get();
      for (int i = 0; i < 4; i++) {
        asked.piece(0, 0, 0, 0, 1);
        asked.piece(4, 0, 1, 0, 1);
        asked.ahead(0, 0, 1);
        asked.ahead(1, 0, 10);
        asked.ahead(3, 2, 0);
        asked.form(1, 51);
        asked.gang(0);
        asked.level(0, -1);
        asked.warm(3, 51);
        asked.base(-1);
        asked.point(2001, 0);
        asked.point(1, 1000);
        asked.table(-1);
        asked.order(0, 10);
        asked.order(-1, 0);
        asked.now(1);
        asked.now(40);
        asked.about(0, 8);
        asked.hard(0, 40);
        asked.why(0, 40);
        asked.free(3, 0);
        asked.poured(-1);
        asked.borne(0, 0, 2);
        asked.count(7);
      }
      Twins.same(checks, "96 refused calls", asked, site.get());
    }
  }

  private static void refusedOnesLeaveThePlan() {
    checks.begin("what was planned");
    PourPlan x = Sites.hardening();
    for (int i = 0; i < 6; i++) Sites.strip(x, 1, 3);
    checks.due("plan", x.plan(), 6);
    checks.due("best of six", x.best(), STATE);
    checks.due("now", x.now(-1), NONE);
    checks.due("piece", x.piece(3, 0, 201, 0, 1), BAD);
    for (int i = 0; i < 6; i++) checks.due("day of " + i, x.about(i, 5), i < 3 ? 0 : 3);
    checks.due("end", x.count(6), 6);
  }
}
