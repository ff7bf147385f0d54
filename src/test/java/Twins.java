import java.util.ArrayList;
import java.util.List;

/**
 * Two objects that had the same calls, but that one of them had a refused call more: refusals change nothing, so no
 * later call may answer otherwise. Some numbers can only be seen by telling them anew: so the look spends its object.
 */
final class Twins {
  private static final int[] SOME_DAYS = {0, 3, 39};

  private final List<String> calls = new ArrayList<>();
  private final List<Long> answers = new ArrayList<>();

  private Twins() {}

  static void same(Checks checks, String behind, PourPlan one, PourPlan other) {
    Twins a = new Twins();
    Twins b = new Twins();
    a.lookAt(one);
    b.lookAt(other);
    checks.due(behind + ", calls of the look", a.calls.size(), b.calls.size());
    for (int i = 0; i < Math.min(a.calls.size(), b.calls.size()); i++) {
      checks.due(behind + ", then " + a.calls.get(i), a.answers.get(i), b.answers.get(i));
    }
  }

  /** Some 390 calls at most: with those that made the object fewer than the 512 that one may have. */
  private void lookAt(PourPlan x) {
    int n = x.count(0);
    for (int what = 0; what < 7; what++) note("count " + what, x.count(what));
    for (int p = 0; p < n; p++) lookAtPiece(x, p);
    for (int day : SOME_DAYS) {
      note("poured " + day, x.poured(day));
      for (int size = 0; size < 3; size++) note("free " + size + " " + day, x.free(size, day));
    }
    for (int degrees : new int[] {0, 1, 33, 77, 100, 2000}) note("table " + degrees, x.table(degrees));
    note("bound", x.bound());
    tellAnew(x, n);
    note("plan", x.plan());
    for (int p = 0; p < n; p++) note("day of " + p, x.about(p, 5));
    note("better", x.better());
    note("now", x.now(39));
    note("unpoint", x.unpoint());
  }

  private void lookAtPiece(PourPlan x, int p) {
    for (int what = 0; what < 8; what++) note("about " + p + " " + what, x.about(p, what));
    for (int day : SOME_DAYS) {
      note("hard " + p + " " + day, x.hard(p, day));
      note("why " + p + " " + day, x.why(p, day));
    }
    note("borne " + p, x.borne(p, 8, 0));
    note("borne below " + p, x.borne(p, 8, 1));
  }

  private void tellAnew(PourPlan x, int n) {
    for (int day = 0; day < 40; day++) note("warm " + day, x.warm(day, 20));
    for (int size = 0; size < 3; size++) note("form " + size, x.form(size, 20));
    for (int which = 0; which < 2; which++) note("level " + which, x.level(which, 250));
    note("gang", x.gang(150));
    note("base", x.base(1));
    for (int a = 0; a < n; a++) {
      for (int b = 0; b < n; b++) {
        if (a != b) note("ahead " + a + " " + b, x.ahead(a, b, 1));
      }
    }
  }

  private void note(String call, long answer) {
    calls.add(call);
    answers.add(answer);
  }
}
