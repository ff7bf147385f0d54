import java.math.BigInteger;
import java.util.ArrayList;
import java.util.List;

/**
 * The document once more, as slowly and plainly as it can be said and in other ways than the class:
 * no kept sums, no shared rows, all ORDERS by recursion, exact fractions.
 */
final class Model {
  private static final int NONE = -1, BAD = -2, STATE = -3, FULL = -4;

  private static final class Piece {
    int kind, floor, volume, size, faces;
    int day = NONE;
  }

  private record Lead(Piece a, Piece b, int days) {}

  private record Point(int degrees, int hardness) {}

  private final List<Piece> pieces = new ArrayList<>();
  private final List<Piece> order = new ArrayList<>();
  private final List<Lead> leads = new ArrayList<>();
  private final List<Point> points = new ArrayList<>();
  private final int[] warmth = new int[40];
  private final int[] forms = {10, 10, 10};
  private int gang = 100, strip = 500, bear = 300, base = 0, now = 0, end = 0;

  Model() {
    java.util.Arrays.fill(warmth, 20);
  }

  private static boolean out(int v, int from, int to) {
    return v < from || v > to;
  }

  private boolean noPiece(int p) {
    return out(p, 0, pieces.size() - 1);
  }

  int piece(int kind, int floor, int volume, int size, int faces) {
    if (out(kind, 0, 3) || out(floor, 0, 5) || out(size, 0, 2)) return NONE;
    if (out(volume, 1, 200) || out(faces, 1, 9)) return BAD;
    if (pieces.size() == 10) return FULL;
    Piece p = new Piece();
    p.kind = kind;
    p.floor = floor;
    p.volume = volume;
    p.size = size;
    p.faces = faces;
    pieces.add(p);
    order.add(p);
    return pieces.size() - 1;
  }

  private boolean mustBeAhead(Piece a, Piece b) {
    for (Lead l : leads) {
      if (l.a == a && (l.b == b || mustBeAhead(l.b, b))) return true;
    }
    return false;
  }

  int ahead(int a, int b, int days) {
    if (noPiece(a) || noPiece(b)) return NONE;
    if (out(days, 0, 9) || a == b || mustBeAhead(pieces.get(b), pieces.get(a))) return BAD;
    int was = NONE;
    for (int i = leads.size() - 1; i >= 0; i--) {
      Lead l = leads.get(i);
      if (l.a == pieces.get(a) && l.b == pieces.get(b)) {
        was = l.days;
        leads.remove(i);
      }
    }
    leads.add(new Lead(pieces.get(a), pieces.get(b), days));
    return was;
  }

  int form(int size, int n) {
    if (out(size, 0, 2)) return NONE;
    if (out(n, 0, 50)) return BAD;
    int was = forms[size];
    forms[size] = n;
    return was;
  }

  int gang(int n) {
    if (out(n, 1, 1000)) return BAD;
    int was = gang;
    gang = n;
    return was;
  }

  int level(int which, int v) {
    if (out(which, 0, 1)) return NONE;
    if (out(v, 0, 1000)) return BAD;
    int was = which == 0 ? strip : bear;
    if (which == 0) strip = v;
    else bear = v;
    return was;
  }

  int warm(int day, int w) {
    if (out(day, 0, 39)) return Integer.MIN_VALUE;
    if (out(w, -30, 50)) return Integer.MIN_VALUE + 1;
    int was = warmth[day];
    warmth[day] = w;
    return was;
  }

  int base(int b) {
    if (out(b, 0, 20)) return BAD;
    int was = base;
    base = b;
    return was;
  }

  int point(int degrees, int thousandths) {
    if (out(degrees, 1, 2000) || out(thousandths, 0, 1000)) return BAD;
    for (Point p : points) {
      if (degrees <= p.degrees || thousandths < p.hardness) return BAD;
    }
    if (points.size() == 6) return FULL;
    points.add(new Point(degrees, thousandths));
    return points.size();
  }

  int unpoint() {
    int was = points.size();
    points.clear();
    return was;
  }

  int table(int degrees) {
    if (degrees < 0) return BAD;
    Point below = new Point(0, 0);
    Point above = null;
    for (Point p : points) {
      if (p.degrees <= degrees) below = p;
      else if (above == null) above = p;
    }
    if (above == null) return below.hardness;
    long left = (long) below.hardness * (above.degrees - degrees);
    long right = (long) above.hardness * (degrees - below.degrees);
    return (int) ((left + right) / (above.degrees - below.degrees));
  }

  private boolean stands(Piece p, int day) {
    return p.day != NONE && p.day <= day;
  }

  private int hardness(Piece p, int day) {
    int sum = 0;
    for (int d = p.day; d < day; d++) sum += Math.max(0, warmth[d] - base);
    return table(sum);
  }

  private int stripped(Piece p) {
    for (int d = p.day + 1; d < 40; d++) {
      if (hardness(p, d) >= strip) return d;
    }
    return 40;
  }

  private int hinders(Piece p, int day) {
    for (Lead l : leads) {
      if (l.b != p) continue;
      if (!stands(l.a, day) || day - l.a.day < l.days) return 1;
      if (l.a.day == day && order.indexOf(l.a) > order.indexOf(p)) return 1;
    }
    for (Piece q : pieces) {
      boolean post = (q.kind == 1 || q.kind == 2) && q.floor == p.floor;
      boolean floorBelow = q.kind == 0 && q.floor + 1 == p.floor;
      if (p.kind == 0 && (post || floorBelow) && (!stands(q, day) || hardness(q, day) < bear)) return 2;
    }
    int held = 0;
    int volume = p.volume;
    for (Piece q : pieces) {
      if (q == p || !stands(q, day)) continue;
      if (q.size == p.size && stripped(q) > day) held += q.faces;
      if (q.day == day) volume += q.volume;
    }
    if (held + p.faces > forms[p.size]) return 3;
    return volume > gang ? 4 : 0;
  }

  private int makePlan() {
    for (Piece p : pieces) {
      if (p.day >= now) p.day = NONE;
    }
    for (int d = now; d < 40; d++) {
      for (Piece p : order) {
        if (p.day == NONE && hinders(p, d) == 0) p.day = d;
      }
    }
    int last = 0;
    for (Piece p : pieces) last = Math.max(last, p.day == NONE ? 40 : stripped(p));
    return last;
  }

  int plan() {
    end = makePlan();
    return end;
  }

  int order(int piece, int i) {
    if (noPiece(piece) || noPiece(i)) return NONE;
    Piece p = pieces.get(piece);
    int was = order.indexOf(p);
    order.remove(p);
    order.add(i, p);
    return was;
  }

  private void allOrders(List<Piece> begun, List<List<Piece>> all) {
    if (begun.size() == pieces.size()) all.add(new ArrayList<>(begun));
    for (Piece p : pieces) {
      if (begun.contains(p)) continue;
      begun.add(p);
      allOrders(begun, all);
      begun.remove(p);
    }
  }

  private void setOrder(List<Piece> to) {
    order.clear();
    order.addAll(to);
  }

  int best() {
    if (pieces.isEmpty() || pieces.size() > 5) return STATE;
    List<List<Piece>> all = new ArrayList<>();
    allOrders(new ArrayList<>(), all);
    int least = 41;
    List<Piece> found = null;
    for (List<Piece> one : all) {
      setOrder(one);
      int e = makePlan();
      if (e < least) {
        least = e;
        found = one;
      }
    }
    setOrder(found);
    return plan();
  }

  int better() {
    int changes = 0;
    boolean goOn = true;
    while (goOn && changes < 10) {
      goOn = false;
      int before = makePlan();
      for (int i = 0; i + 1 < order.size() && !goOn; i++) {
        List<Piece> kept = new ArrayList<>(order);
        order.set(i, kept.get(i + 1));
        order.set(i + 1, kept.get(i));
        if (makePlan() < before) goOn = true;
        else setOrder(kept);
      }
      if (goOn) changes++;
    }
    end = makePlan();
    return changes;
  }

  int now(int day) {
    if (out(day, 0, 39)) return NONE;
    if (day < now) return BAD;
    now = day;
    int n = 0;
    for (Piece p : pieces) {
      if (p.day >= now) {
        p.day = NONE;
        n++;
      }
    }
    return n;
  }

  private int farthest(Piece from) {
    int far = 0;
    for (Lead l : leads) {
      if (l.a == from) far = Math.max(far, l.days + farthest(l.b));
    }
    return far;
  }

  int bound() {
    int most = 0;
    for (Piece p : pieces) most = Math.max(most, farthest(p) + 1);
    return most;
  }

  int about(int piece, int what) {
    if (noPiece(piece)) return NONE;
    Piece p = pieces.get(piece);
    int[] all = {p.kind, p.floor, p.volume, p.size, p.faces, p.day, p.day == NONE ? NONE : stripped(p), order.indexOf(p)};
    return out(what, 0, 7) ? NONE : all[what];
  }

  int hard(int piece, int day) {
    if (noPiece(piece) || out(day, 0, 39) || !stands(pieces.get(piece), day)) return NONE;
    return hardness(pieces.get(piece), day);
  }

  int why(int piece, int day) {
    return noPiece(piece) || out(day, 0, 39) ? NONE : hinders(pieces.get(piece), day);
  }

  int free(int size, int day) {
    if (out(size, 0, 2) || out(day, 0, 39)) return NONE;
    int left = forms[size];
    for (Piece q : pieces) {
      if (q.size == size && stands(q, day) && stripped(q) > day) left -= q.faces;
    }
    return left;
  }

  int poured(int day) {
    if (out(day, 0, 39)) return NONE;
    int sum = 0;
    for (Piece q : pieces) sum += q.day == day ? q.volume : 0;
    return sum;
  }

  long borne(int piece, int day, int part) {
    if (noPiece(piece) || out(day, 0, 39) || out(part, 0, 1)) return Long.MIN_VALUE;
    Piece p = pieces.get(piece);
    if (p.kind != 0 || !stands(p, day)) return Long.MIN_VALUE;
    BigInteger above = BigInteger.valueOf(p.volume);
    BigInteger below = BigInteger.ONE;
    for (Piece load : pieces) {
      boolean loads = load.kind == 0 && stands(load, day) && stripped(load) > day;
      if (!loads || (p.floor != load.floor - 1 && p.floor != load.floor - 2)) continue;
      int together = 0;
      for (Piece q : pieces) {
        boolean bears = q.floor == load.floor - 1 || q.floor == load.floor - 2;
        if (q.kind == 0 && bears && stands(q, day)) together += hardness(q, day);
      }
      if (together == 0) continue;
      BigInteger t = BigInteger.valueOf(together);
      BigInteger share = BigInteger.valueOf((long) load.volume * hardness(p, day));
      above = above.multiply(t).add(share.multiply(below));
      below = below.multiply(t);
    }
    BigInteger divisor = above.gcd(below);
    return (part == 0 ? above : below).divide(divisor).longValueExact();
  }

  int count(int what) {
    int standing = 0;
    for (Piece p : pieces) standing += p.day == NONE ? 0 : 1;
    int[] all = {pieces.size(), standing, now, points.size(), gang, base, end};
    return out(what, 0, 6) ? NONE : all[what];
  }
}
