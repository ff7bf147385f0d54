import java.util.List;
import java.util.function.Supplier;

/**
 * Every argument of every call at its bounds: the last number that is taken and the first one that is refused, at both
 * ends, and the least and the greatest int. Behind each refusal the object must answer all as if it had not been asked.
 */
public final class BoundsTest {
  private static final int NONE = -1, BAD = -2, STATE = -3, FULL = -4;
  private static final int LOW = Integer.MIN_VALUE, HIGH = Integer.MAX_VALUE;
  private static final long NO = Long.MIN_VALUE;
  private static final Checks checks = new Checks();
  private static final List<Supplier<PourPlan>> ALL = List.of(Sites::empty, Sites::begun, Sites::full);
  private static final List<Supplier<PourPlan>> WITH_PIECES = List.of(Sites::begun, Sites::full);

  private interface Call {
    long of(PourPlan x, int v);
  }

  public static void main(String[] args) {
    constants();
    piece();
    pieceTaken();
    ahead();
    aheadInACircle();
    form();
    gang();
    level();
    warm();
    base();
    point();
    pointsInARow();
    table();
    order();
    best();
    now();
    about();
    hard();
    why();
    free();
    poured();
    borne();
    count();
    checks.end();
  }

  private static void due(String call, long got, long want) {
    checks.due(call, got, want);
  }

  /** The first numbers that are no more of a range, and those that are farthest from it. */
  private static int[] outside(int from, int to) {
    return new int[] {LOW, LOW + 1, from - 1, to + 1, HIGH - 1, HIGH};
  }

  private static void refuses(List<Supplier<PourPlan>> sites, String name, Call call, long refusal, int... values) {
    for (Supplier<PourPlan> site : sites) {
      for (int v : values) {
        PourPlan asked = site.get();
        due(name + " " + v, call.of(asked, v), refusal);
        Twins.same(checks, name + " " + v, asked, site.get());
      }
    }
  }

  private static void refuses(Supplier<PourPlan> site, String name, Call call, long refusal, int... values) {
    refuses(List.of(site), name, call, refusal, values);
  }

  /** Numbers outside those of the pieces that there are: on the empty object 0 is outside, too. */
  private static void refusesOtherPieces(String name, Call call, long refusal) {
    for (Supplier<PourPlan> site : ALL) {
      refuses(site, name, call, refusal, outside(0, site.get().count(0) - 1));
    }
  }

  private static void constants() {
    checks.begin("the constants");
    due("NONE", PourPlan.NONE, NONE);
    due("BAD", PourPlan.BAD, BAD);
    due("STATE", PourPlan.STATE, STATE);
    due("FULL", PourPlan.FULL, FULL);
    due("NO", PourPlan.NO, NO);
  }

  // ---- promise 2
  private static void piece() {
    checks.begin("2 piece refuses");
    refuses(ALL, "kind", (x, v) -> x.piece(v, 0, 1, 0, 1), NONE, outside(0, 3));
    refuses(ALL, "floor", (x, v) -> x.piece(0, v, 1, 0, 1), NONE, outside(0, 5));
    refuses(ALL, "size", (x, v) -> x.piece(0, 0, 1, v, 1), NONE, outside(0, 2));
    refuses(ALL, "volume", (x, v) -> x.piece(0, 0, v, 0, 1), BAD, outside(1, 200));
    refuses(ALL, "faces", (x, v) -> x.piece(0, 0, 1, 0, v), BAD, outside(1, 9));
    refuses(Sites::full, "an 11th of volume", (x, v) -> x.piece(0, 0, v, 0, 1), FULL, 1, 200);
  }

  private static void pieceTaken() {
    checks.begin("2 piece takes");
    // The ends of KIND, FLOOR, VOLUME, SIZE, FACES, one after another; the last one is the tenth that has room.
    int[][] taken = {{0, 1, 2, 1, 2}, {3, 1, 2, 1, 2}, {1, 0, 2, 1, 2}, {1, 5, 2, 1, 2}, {1, 1, 1, 1, 2},
        {1, 1, 200, 1, 2}, {1, 1, 2, 0, 2}, {1, 1, 2, 2, 2}, {1, 1, 2, 1, 1}, {1, 1, 2, 1, 9}};
    PourPlan x = new PourPlan();
    for (int i = 0; i < 10; i++) {
      int[] t = taken[i];
      due("the number of piece " + i, x.piece(t[0], t[1], t[2], t[3], t[4]), i);
      for (int what = 0; what < 5; what++) due("about " + i + " " + what, x.about(i, what), t[what]);
      due("not poured", x.about(i, 5), NONE);
      due("not stripped", x.about(i, 6), NONE);
      due("the last one in the ORDER", x.about(i, 7), i);
      due("count", x.count(0), i + 1);
    }
    due("FULL", x.piece(0, 0, 1, 0, 1), FULL);
    due("count", x.count(0), 10);
    due("there is none of number 10", x.about(10, 0), NONE);
  }

  // ---- promise 3
  private static void ahead() {
    checks.begin("3 ahead");
    refusesOtherPieces("a", (x, v) -> x.ahead(v, 0, 1), NONE);
    refusesOtherPieces("b", (x, v) -> x.ahead(0, v, 1), NONE);
    refuses(WITH_PIECES, "days", (x, v) -> x.ahead(1, 0, v), BAD, outside(0, 9));
    refuses(WITH_PIECES, "days, told of them already", (x, v) -> x.ahead(2, 3, v), BAD, outside(0, 9));
    refuses(Sites::begun, "a is b", (x, v) -> x.ahead(v, v, 1), BAD, 0, 3);
    refuses(Sites::full, "a is b", (x, v) -> x.ahead(v, v, 1), BAD, 0, 9);
    PourPlan x = Sites.full();
    due("the least, of the first and the last piece", x.ahead(0, 9, 0), NONE);
    due("the greatest", x.ahead(0, 9, 9), 0);
    due("what it was", x.ahead(0, 9, 0), 9);
  }

  private static PourPlan chainOfTen() {
    PourPlan x = new PourPlan();
    for (int i = 0; i < 10; i++) Sites.strip(x, 1, 1);
    for (int i = 0; i < 9; i++) x.ahead(i, i + 1, 0);
    return x;
  }

  private static void aheadInACircle() {
    checks.begin("3 ahead, in a circle");
    // By none, by one and by eight others between.
    refuses(BoundsTest::chainOfTen, "to 0 from", (x, v) -> x.ahead(v, 0, 0), BAD, 1, 2, 9);
    refuses(BoundsTest::chainOfTen, "from 9 to", (x, v) -> x.ahead(9, v, 9), BAD, 0, 4, 8);
    PourPlan x = chainOfTen();
    due("the same way as all others", x.ahead(0, 9, 9), NONE);
    due("a neighbour again", x.ahead(4, 5, 9), 0);
    PourPlan y = new PourPlan();
    for (int i = 0; i < 4; i++) Sites.strip(y, 1, 1);
    y.ahead(0, 1, 1);
    y.ahead(2, 3, 1);
    due("from a second chain to the first", y.ahead(3, 0, 1), NONE);
    due("so the first not to the second", y.ahead(1, 2, 1), BAD);
    due("two of the same follower", y.ahead(2, 1, 1), NONE);
  }

  // ---- promise 4
  private static void form() {
    checks.begin("4 form");
    refuses(ALL, "size", (x, v) -> x.form(v, 5), NONE, outside(0, 2));
    for (int size = 0; size < 3; size++) {
      int s = size;
      refuses(ALL, "n of size " + s, (x, v) -> x.form(s, v), BAD, outside(0, 50));
    }
    PourPlan x = new PourPlan();
    for (int size = 0; size < 3; size++) {
      due("10 at first", x.form(size, 0), 10);
      due("none are free", x.free(size, 0), 0);
      due("0 is taken", x.form(size, 50), 0);
      due("50 are free", x.free(size, 39), 50);
      due("50 is taken", x.form(size, 50), 50);
    }
  }

  // ---- promise 5
  private static void gang() {
    checks.begin("5 gang");
    refuses(ALL, "n", (x, v) -> x.gang(v), BAD, outside(1, 1000));
    PourPlan x = new PourPlan();
    due("100 at first", x.gang(1), 100);
    due("1 is taken", x.gang(1000), 1);
    due("1000 is taken", x.count(4), 1000);
  }

  // ---- promise 6
  private static void level() {
    checks.begin("6 level");
    refuses(ALL, "which", (x, v) -> x.level(v, 5), NONE, outside(0, 1));
    refuses(ALL, "STRIP", (x, v) -> x.level(0, v), BAD, outside(0, 1000));
    refuses(ALL, "BEAR", (x, v) -> x.level(1, v), BAD, outside(0, 1000));
    PourPlan x = new PourPlan();
    int[] atFirst = {500, 300};
    for (int which = 0; which < 2; which++) {
      due("at first", x.level(which, 0), atFirst[which]);
      due("0 is taken", x.level(which, 1000), 0);
      due("1000 is taken", x.level(which, 7), 1000);
    }
  }

  // ---- promise 7
  private static void warm() {
    checks.begin("7 warm");
    refuses(ALL, "day", (x, v) -> x.warm(v, 0), LOW, outside(0, 39));
    refuses(ALL, "w on 0", (x, v) -> x.warm(0, v), LOW + 1, outside(-30, 50));
    refuses(ALL, "w on 39", (x, v) -> x.warm(39, v), LOW + 1, outside(-30, 50));
    PourPlan x = new PourPlan();
    for (int day = 0; day < 40; day += 39) {
      due("20 at first", x.warm(day, -30), 20);
      due("-30 is taken", x.warm(day, 50), -30);
      due("50 is taken", x.warm(day, -1), 50);
      due("-1 is a WARMTH, no refusal", x.warm(day, -2), -1);
      due("and so is -2", x.warm(day, 0), -2);
    }
    for (int day = 1; day < 39; day++) due("the others are as at first", x.warm(day, 20), 20);
  }

  // ---- promise 8
  private static void base() {
    checks.begin("8 base");
    refuses(ALL, "b", (x, v) -> x.base(v), BAD, outside(0, 20));
    PourPlan x = new PourPlan();
    due("0 at first", x.base(20), 0);
    due("20 is taken", x.count(5), 20);
    due("20 is taken", x.base(0), 20);
    due("0 is taken", x.count(5), 0);
  }

  // ---- promise 9
  private static void point() {
    checks.begin("9 point");
    refuses(ALL, "degrees", (x, v) -> x.point(v, 1000), BAD, outside(1, 2000));
    refuses(ALL, "thousandths", (x, v) -> x.point(2000, v), BAD, outside(0, 1000));
    refuses(Sites::begun, "degrees not rising", (x, v) -> x.point(v, 1000), BAD, 1, 49, 50, 51, 99, 100);
    refuses(Sites::begun, "thousandths falling", (x, v) -> x.point(200, v), BAD, 0, 399, 400, 401, 999);
    refuses(Sites::full, "a 7th of degrees", (x, v) -> x.point(v, 1000), FULL, 121, 2000);
    refuses(Sites::full, "a 7th of thousandths", (x, v) -> x.point(2000, v), FULL, 900, 1000);
    due("the least of both", new PourPlan().point(1, 0), 1);
    due("the least degrees", new PourPlan().point(1, 1000), 1);
    due("the greatest degrees", new PourPlan().point(2000, 0), 1);
    due("the greatest of both", new PourPlan().point(2000, 1000), 1);
  }

  private static void pointsInARow() {
    checks.begin("9 point, rising and not falling");
    PourPlan x = new PourPlan();
    due("1", x.point(10, 20), 1);
    due("as many degrees", x.point(10, 21), BAD);
    due("a thousandth less", x.point(11, 19), BAD);
    due("a degree more, as hard", x.point(11, 20), 2);
    due("the last one counts, not the first", x.point(11, 21), BAD);
    due("3", x.point(12, 1000), 3);
    due("nothing is harder than 1000", x.point(13, 999), BAD);
    due("4", x.point(13, 1000), 4);
    due("5", x.point(1999, 1000), 5);
    due("6", x.point(2000, 1000), 6);
    due("how many", x.count(3), 6);
    due("all go", x.unpoint(), 6);
    due("how many", x.count(3), 0);
    due("the least is taken again", x.point(1, 0), 1);
    due("one goes", x.unpoint(), 1);
    due("none goes", x.unpoint(), 0);
  }

  // ---- promise 11
  private static void table() {
    checks.begin("11 table");
    refuses(ALL, "degrees", (x, v) -> x.table(v), BAD, LOW, LOW + 1, -2, -1);
    due("0 on the empty object", new PourPlan().table(0), 0);
    due("the greatest int on the empty object", new PourPlan().table(HIGH), 0);
    due("0", Sites.full().table(0), 0);
    due("one ahead of the last POINT", Sites.full().table(119), 892);
    due("the last POINT", Sites.full().table(120), 900);
    due("one behind it", Sites.full().table(121), 900);
    due("the greatest int", Sites.full().table(HIGH), 900);
  }

  // ---- promise 13
  private static void order() {
    checks.begin("13 order");
    refusesOtherPieces("piece", (x, v) -> x.order(v, 0), NONE);
    refusesOtherPieces("i", (x, v) -> x.order(0, v), NONE);
    PourPlan x = new PourPlan();
    for (int i = 0; i < 10; i++) Sites.strip(x, 1, 1);
    due("from the first place to the last", x.order(0, 9), 0);
    for (int i = 1; i < 10; i++) due("place of " + i, x.about(i, 7), i - 1);
    due("place of 0", x.about(0, 7), 9);
    due("from the last place to the first", x.order(0, 0), 9);
    for (int i = 0; i < 10; i++) due("place of " + i, x.about(i, 7), i);
    due("the last one where it is", x.order(9, 9), 9);
    due("the first one where it is", x.order(0, 0), 0);
    for (int i = 0; i < 10; i++) due("place of " + i, x.about(i, 7), i);
    PourPlan one = new PourPlan();
    Sites.strip(one, 1, 1);
    due("the only one", one.order(0, 0), 0);
    due("there is no place behind it", one.order(0, 1), NONE);
  }

  // ---- promise 14
  private static PourPlan strips(int n) {
    PourPlan x = Sites.hardening();
    for (int i = 0; i < n; i++) Sites.strip(x, 1, 1);
    x.order(n - 1, 0);
    x.plan();
    return x;
  }

  private static void best() {
    checks.begin("14 best");
    refuses(Sites::empty, "none of", (x, v) -> x.best(), STATE, 0);
    refuses(() -> strips(6), "more than 5 of", (x, v) -> x.best(), STATE, 6);
    refuses(Sites::full, "more than 5 of", (x, v) -> x.best(), STATE, 10);
    for (int n = 1; n <= 5; n++) {
      PourPlan x = strips(n);
      due("best of " + n, x.best(), 3);
      for (int i = 0; i < n; i++) due("place of " + i, x.about(i, 7), i);
    }
    PourPlan x = strips(5);
    due("of five", x.best(), 3);
    Sites.strip(x, 1, 1);
    due("one more is too many", x.best(), STATE);
    due("it is not planned", x.about(5, 5), NONE);
  }

  // ---- promise 16
  private static void now() {
    checks.begin("16 now");
    refuses(ALL, "day", (x, v) -> x.now(v), NONE, outside(0, 39));
    refuses(Sites::begun, "ahead of 3", (x, v) -> x.now(v), BAD, 0, 1, 2);
    refuses(Sites::full, "ahead of 2", (x, v) -> x.now(v), BAD, 0, 1);
    PourPlan x = new PourPlan();
    due("0 at first", x.count(2), 0);
    due("0 is taken", x.now(0), 0);
    due("the same once more", x.now(0), 0);
    due("the next one", x.now(1), 0);
    due("none ahead of it", x.now(0), BAD);
    due("39 is taken", x.now(39), 0);
    due("count", x.count(2), 39);
    due("40 is no DAY", x.now(40), NONE);
    due("39 once more", x.now(39), 0);
    due("38 is ahead of it", x.now(38), BAD);
    due("count", x.count(2), 39);
  }

  // ---- promise 18
  private static void about() {
    checks.begin("18 about");
    refusesOtherPieces("piece", (x, v) -> x.about(v, 0), NONE);
    refuses(ALL, "what", (x, v) -> x.about(0, v), NONE, outside(0, 7));
    due("what 0 of the first piece", Sites.full().about(0, 0), Sites.SLAB);
    due("what 7 of the first piece", Sites.full().about(0, 7), 1);
    due("what 0 of the last piece", Sites.full().about(9, 0), Sites.WALL);
    due("what 7 of the last piece", Sites.full().about(9, 7), 0);
  }

  // ---- promise 19
  private static void hard() {
    checks.begin("19 hard");
    refusesOtherPieces("piece", (x, v) -> x.hard(v, 39), NONE);
    refuses(ALL, "day", (x, v) -> x.hard(0, v), NONE, outside(0, 39));
    PourPlan x = strips(2);
    due("the first DAY", x.hard(0, 0), 0);
    due("the last DAY", x.hard(1, 39), 1000);
    PourPlan y = Sites.hardening();
    Sites.strip(y, 1, 1);
    due("not poured", y.hard(0, 39), NONE);
    y.now(39);
    y.plan();
    due("not poured ahead of 38 or on it", y.hard(0, 38), NONE);
    due("poured on 39", y.hard(0, 39), 0);
  }

  // ---- promise 20
  private static void why() {
    checks.begin("20 why");
    refusesOtherPieces("piece", (x, v) -> x.why(v, 39), NONE);
    refuses(ALL, "day", (x, v) -> x.why(0, v), NONE, outside(0, 39));
    PourPlan x = strips(2);
    due("the first DAY", x.why(0, 0), 0);
    due("the last DAY", x.why(1, 39), 0);
  }

  // ---- promise 21
  private static void free() {
    checks.begin("21 free");
    refuses(ALL, "size", (x, v) -> x.free(v, 0), NONE, outside(0, 2));
    refuses(ALL, "day", (x, v) -> x.free(0, v), NONE, outside(0, 39));
    PourPlan x = strips(2);
    due("the first DAY", x.free(0, 0), 8);
    due("the last DAY", x.free(0, 39), 10);
    due("the last SIZE", x.free(2, 0), 10);
  }

  // ---- promise 22
  private static void poured() {
    checks.begin("22 poured");
    refuses(ALL, "day", (x, v) -> x.poured(v), NONE, outside(0, 39));
    PourPlan x = strips(2);
    due("the first DAY", x.poured(0), 2);
    due("the last DAY", x.poured(39), 0);
    Sites.strip(x, 7, 1);
    x.now(39);
    x.plan();
    due("poured on the last DAY", x.poured(39), 7);
  }

  // ---- promise 23
  private static void borne() {
    checks.begin("23 borne");
    refusesOtherPieces("piece", (x, v) -> x.borne(v, 39, 0), NO);
    refuses(ALL, "day", (x, v) -> x.borne(0, v, 0), NO, outside(0, 39));
    refuses(ALL, "part", (x, v) -> x.borne(0, 39, v), NO, outside(0, 1));
    PourPlan x = Sites.hardening();
    for (int kind = 0; kind < 4; kind++) x.piece(kind, 3, 10 + kind, 0, 1);
    due("a SLAB that is not poured", x.borne(0, 39, 1), NO);
    x.now(37);
    x.plan();
    for (int kind = 1; kind < 4; kind++) {
      due("poured on 37", x.about(kind, 5), 37);
      due("no SLAB, but " + kind, x.borne(kind, 39, 0), NO);
      due("no SLAB, but " + kind, x.borne(kind, 39, 1), NO);
    }
    due("the SLAB on 39", x.about(0, 5), 39);
    due("not poured by 38", x.borne(0, 38, 0), NO);
    due("not poured by 38", x.borne(0, 38, 1), NO);
    due("above the line", x.borne(0, 39, 0), 10);
    due("below the line", x.borne(0, 39, 1), 1);
  }

  // ---- promise 24
  private static void count() {
    checks.begin("24 count");
    refuses(ALL, "what", (x, v) -> x.count(v), NONE, outside(0, 6));
    due("what 0", Sites.full().count(0), 10);
    due("what 6", Sites.full().count(6), Sites.full().plan());
  }
}
