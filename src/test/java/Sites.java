/** Objects that several tests begin with, each made anew by the same calls. */
final class Sites {
  static final int SLAB = 0, WALL = 1, COLUMN = 2, STRIP = 3;

  private Sites() {}

  static PourPlan empty() {
    return new PourPlan();
  }

  /** 10 thousandths a degree: at 20 degrees a day 200 a day, so bearing after 2 days, stripped after 3. */
  static PourPlan hardening() {
    PourPlan x = new PourPlan();
    x.point(100, 1000);
    return x;
  }

  static int strip(PourPlan x, int volume, int faces) {
    return x.piece(STRIP, 0, volume, 0, faces);
  }

  /** Four pieces, two POINTS, no number as at first, an ORDER of its own, planned, NOW within the PLAN. */
  static PourPlan begun() {
    PourPlan x = new PourPlan();
    x.point(50, 400);
    x.point(100, 1000);
    x.piece(SLAB, 1, 40, 0, 6);
    x.piece(SLAB, 0, 30, 0, 5);
    x.piece(WALL, 0, 20, 1, 4);
    x.piece(STRIP, 0, 10, 1, 3);
    x.ahead(2, 3, 2);
    x.order(3, 0);
    x.form(1, 12);
    x.gang(90);
    x.level(0, 600);
    x.level(1, 350);
    x.warm(1, 11);
    x.warm(4, -3);
    x.base(2);
    x.plan();
    x.now(3);
    x.plan();
    return x;
  }

  /** 10 pieces of all KINDS and FLOORS, 6 POINTS that may be followed by one more, planned, NOW is 2. */
  static PourPlan full() {
    PourPlan x = new PourPlan();
    for (int i = 1; i <= 6; i++) x.point(20 * i, 150 * i);
    for (int i = 0; i < 10; i++) x.piece(i % 4, i / 2, 20 + i, i % 3, 1 + i % 9);
    x.ahead(1, 2, 1);
    x.ahead(2, 3, 0);
    x.ahead(3, 9, 4);
    x.order(9, 0);
    x.plan();
    x.now(2);
    x.plan();
    return x;
  }
}
