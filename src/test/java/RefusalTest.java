/**
 * "Answers of several refusals are the first one here" and "A refused call changes nothing", for every call of the
 * face; and that what is told only changes nothing either.
 */
public final class RefusalTest {
  private static final Due DUE = new Due();
  private static final int[] NO_PLOT = {-1, 24, Integer.MIN_VALUE, Integer.MAX_VALUE};
  private static final int[] NO_BUYER = {-1, 4, 10, Integer.MIN_VALUE, Integer.MAX_VALUE};
  private static final int[] NO_SHELF = {-1, 8, Integer.MIN_VALUE, Integer.MAX_VALUE};

  public static void main(String[] args) {
    Unchanged village = new Unchanged(DUE, "village", RefusalTest::village);
    plotsAndBuyers(village);
    sales(village);
    mowing(village);
    keepAndMake(village);
    copies(village);
    elements(village);
    toldOnly(village);
    changesAreSeen(village);
    fullHouse(new Unchanged(DUE, "full", RefusalTest::full));
    newMeadow(new Unchanged(DUE, "new", CandleMeadow::new));
    DUE.end();
  }

  /**
   * Four buyers; plots 0, 1, 2, 7 sold (2 is cut, 7 is bare), others not; some rain; the day is 3, the step 7. Shelf 0
   * holds nothing, 1 a wet plot, 2 worths, 3 owners, 4 five ints, 5 five bytes, 6 no ints, 7 a dry plot.
   */
  private static CandleMeadow village() {
    CandleMeadow x = new CandleMeadow();
    int[] kinds = {0, 1, 3, 2, 0, 1, 3};
    for (int p = 0; p < 7; p++) {
      x.plot(p, kinds[p], 50 + 10 * p);
    }
    x.plot(23, 3, 200);
    for (int b = 0; b < 4; b++) {
      x.buyer(3 * b, 200 + 100 * b, 5 * b);
    }
    x.surety(0, 1);
    x.surety(2, 3);
    x.waits(1, true);
    x.candle(0, 9, 0);
    x.candle(1, 20, 1);
    x.candle(2, 14, 3);
    x.candle(7, 4, 0);
    x.rain(4, true);
    x.rain(30, true);
    x.rain(0, true);
    x.day(3);
    x.cut(2);
    x.step(7);
    x.purse(3, 10);
    x.keep(1, 1, 5);
    x.keep(2, 3, 2);
    x.keep(3, 4, 0);
    x.make(4, 3, 5);
    x.copy(2, 0, 4, 0, 5);
    x.make(5, 4, 5);
    x.copy(3, 0, 5, 0, 5);
    x.make(6, 3, 0);
    x.keep(7, 1, 4);
    return x;
  }

  /** Ten buyers, seven plots that stand, the last day. */
  private static CandleMeadow full() {
    CandleMeadow x = new CandleMeadow();
    for (int b = 0; b < 10; b++) {
      x.buyer(5 * b, 1000 + b, 2 * b);
    }
    for (int p = 0; p < 7; p++) {
      x.plot(3 * p, 3, 100 + p);
      x.candle(3 * p, 10 + p, p);
    }
    x.day(30);
    for (int d = 0; d < 8; d++) {
      x.make(d, 3 + d % 2, 60);
    }
    return x;
  }

  private static void plotsAndBuyers(Unchanged u) {
    for (int p : NO_PLOT) {
      u.by("plot(" + p + ", 1, 1)", -1, x -> x.plot(p, 1, 1));
      u.by("buyer(1, 1, " + p + ")", -1, x -> x.buyer(1, 1, p));
      u.by("look(" + p + ", 1)", -1, x -> x.look(p, 1));
      u.by("worth(" + p + ", 1)", -1, x -> x.worth(p, 1));
    }
    for (int b : NO_BUYER) {
      u.by("purse(" + b + ", 5)", -1, x -> x.purse(b, 5));
      u.by("waits(" + b + ", true)", -1, x -> x.waits(b, true));
      u.by("surety(" + b + ", 1)", -1, x -> x.surety(b, 1));
      u.by("surety(" + b + ", -1)", -1, x -> x.surety(b, -1));
      u.by("about(" + b + ", 1)", -1, x -> x.about(b, 1));
      u.by("worth(1, " + b + ")", -1, x -> x.worth(1, b));
    }
    u.by("plot(10, 4, 1)", -1, x -> x.plot(10, 4, 1));
    u.by("plot(10, -1, 1)", -1, x -> x.plot(10, -1, 1));
    u.by("plot(10, 1, 201)", -1, x -> x.plot(10, 1, 201));
    u.by("plot(10, 1, -1)", -1, x -> x.plot(10, 1, -1));
    u.by("sold: plot(0, 1, 1)", -3, x -> x.plot(0, 1, 1));
    u.by("cut: plot(2, 1, 1)", -3, x -> x.plot(2, 1, 1));
    u.by("bare and sold: plot(7, 1, 1)", -3, x -> x.plot(7, 1, 1));
    u.by("-1 ahead of -3: plot(0, 4, 1)", -1, x -> x.plot(0, 4, 1));
    u.by("buyer(51, 1, 1)", -1, x -> x.buyer(51, 1, 1));
    u.by("buyer(-1, 1, 1)", -1, x -> x.buyer(-1, 1, 1));
    u.by("buyer(1, 100001, 1)", -1, x -> x.buyer(1, 100001, 1));
    u.by("buyer(1, -1, 1)", -1, x -> x.buyer(1, -1, 1));
    u.by("purse(1, 100001)", -1, x -> x.purse(1, 100001));
    u.by("purse(1, -1)", -1, x -> x.purse(1, -1));
    u.by("surety(0, 4)", -1, x -> x.surety(0, 4));
    u.by("surety(0, -2)", -1, x -> x.surety(0, -2));
    u.by("itself: surety(0, 0)", -1, x -> x.surety(0, 0));
    u.by("step(0)", -1, x -> x.step(0));
    u.by("step(101)", -1, x -> x.step(101));
    u.by("look(1, 8)", -1, x -> x.look(1, 8));
    u.by("about(1, 8)", -1, x -> x.about(1, 8));
    u.by("count(7)", -1, x -> x.count(7));
  }

  private static void sales(Unchanged u) {
    for (int p : NO_PLOT) {
      u.by("candle(" + p + ", 5, 0)", -1, x -> x.candle(p, 5, 0));
      u.by("wins(" + p + ", 0, 0)", -1, x -> x.wins(p, 0, 0));
      u.by("lots(" + p + ")", -1, x -> x.lots(p));
      u.by("lotter(" + p + ")", -1, x -> x.lotter(p));
    }
    for (int b : NO_BUYER) {
      u.by("candle(4, 5, " + b + ")", -1, x -> x.candle(4, 5, b));
      u.by("wins(4, " + b + ", 0)", -1, x -> x.wins(4, b, 0));
      u.by("wins(4, 0, " + b + ")", -1, x -> x.wins(4, 0, b));
      u.by("-1 ahead of -3: candle(0, 5, " + b + ")", -1, x -> x.candle(0, 5, b));
      u.by("-1 ahead of -3: wins(0, 0, " + b + ")", -1, x -> x.wins(0, 0, b));
    }
    u.by("candle(4, 0, 0)", -1, x -> x.candle(4, 0, 0));
    u.by("candle(4, 61, 0)", -1, x -> x.candle(4, 61, 0));
    u.by("-1 ahead of -3: candle(0, 61, 0)", -1, x -> x.candle(0, 61, 0));
    u.by("sold: candle(0, 60, 0)", -3, x -> x.candle(0, 60, 0));
    u.by("cut: candle(2, 60, 0)", -3, x -> x.candle(2, 60, 0));
    u.by("bare and sold: candle(7, 60, 0)", -3, x -> x.candle(7, 60, 0));
    u.by("nobody: candle(22, 60, 0)", -4, x -> x.candle(22, 60, 0));
    u.by("sold: wins(0, 0, 0)", -3, x -> x.wins(0, 0, 0));
    u.by("sold: lots(0)", -3, x -> x.lots(0));
    u.by("sold: lotter(0)", -3, x -> x.lotter(0));
    u.by("nobody: lots(22)", -4, x -> x.lots(22));
    u.by("nobody: lotter(22)", -4, x -> x.lotter(22));
  }

  private static void mowing(Unchanged u) {
    for (int p : NO_PLOT) {
      u.by("way(" + p + ")", -1, x -> x.way(p));
      u.by("cut(" + p + ")", -1, x -> x.cut(p));
      u.by("dry(" + p + ")", -1, x -> x.dry(p));
      u.by("barn(" + p + ")", -1, x -> x.barn(p));
    }
    for (int b : NO_BUYER) {
      u.by("tithe(" + b + ")", -1, x -> x.tithe(b));
      u.by("pays(" + b + ", 0)", -1, x -> x.pays(b, 0));
    }
    int[] noDay = {-1, 31, Integer.MIN_VALUE, Integer.MAX_VALUE};
    for (int d : noDay) {
      u.by("day(" + d + ")", -1, x -> x.day(d));
      u.by("rain(" + d + ", true)", -1, x -> x.rain(d, true));
      u.by("rain(" + d + ", false)", -1, x -> x.rain(d, false));
    }
    u.by("back: day(2)", -1, x -> x.day(2));
    u.by("back: day(0)", -1, x -> x.day(0));
    u.by("not sold: cut(4)", -3, x -> x.cut(4));
    u.by("cut: cut(2)", -3, x -> x.cut(2));
    u.by("bare: cut(7)", -3, x -> x.cut(7));
    u.by("neither sold nor grown: cut(20)", -3, x -> x.cut(20));
    u.by("order(-1)", -1, x -> x.order(-1));
    u.by("two stand: order(2)", -3, x -> x.order(2));
    u.by("standing: dry(0)", -3, x -> x.dry(0));
    u.by("standing: barn(0)", -3, x -> x.barn(0));
    u.by("pays(0, -1)", -1, x -> x.pays(0, -1));
    u.by("pays(0, 4)", -1, x -> x.pays(0, 4));
  }

  private static void keepAndMake(Unchanged u) {
    for (int d : NO_SHELF) {
      u.by("keep(" + d + ", 0, 0)", -1, x -> x.keep(d, 0, 0));
      u.by("keep(" + d + ", 4, 0)", -1, x -> x.keep(d, 4, 0));
      u.by("make(" + d + ", 3, 5)", -1, x -> x.make(d, 3, 5));
      u.by("-1 ahead of -14: make(" + d + ", 3, -1)", -1, x -> x.make(d, 3, -1));
      u.by("weight(" + d + ")", -1, x -> x.weight(d));
      u.by("toss(" + d + ")", -1, x -> x.toss(d));
    }
    for (int d = 0; d < 8; d++) {
      int shelf = d;
      u.by("keep(" + d + ", 1, 24)", -1, x -> x.keep(shelf, 1, 24));
      u.by("keep(" + d + ", 1, -1)", -1, x -> x.keep(shelf, 1, -1));
      u.by("keep(" + d + ", 3, 4)", -1, x -> x.keep(shelf, 3, 4));
      u.by("keep(" + d + ", 3, -1)", -1, x -> x.keep(shelf, 3, -1));
      u.by("keep(" + d + ", 2, 0)", -1, x -> x.keep(shelf, 2, 0));
      u.by("keep(" + d + ", 5, 0)", -1, x -> x.keep(shelf, 5, 0));
      u.by("make(" + d + ", 3, 61)", -1, x -> x.make(shelf, 3, 61));
      u.by("make(" + d + ", 4, 61)", -1, x -> x.make(shelf, 4, 61));
      u.by("make(" + d + ", 3, -1)", -14, x -> x.make(shelf, 3, -1));
      u.by("make(" + d + ", 4, -1)", -14, x -> x.make(shelf, 4, -1));
      u.by("make(" + d + ", 1, 3)", -1, x -> x.make(shelf, 1, 3));
      u.by("-1 ahead of -14: make(" + d + ", 0, -1)", -1, x -> x.make(shelf, 0, -1));
    }
    u.by("nothing: weight(0)", -11, x -> x.weight(0));
    u.by("ints: weight(2)", -12, x -> x.weight(2));
    u.by("no ints: weight(6)", -12, x -> x.weight(6));
    u.by("nothing: toss(0)", -11, x -> x.toss(0));
    u.by("bytes: toss(3)", -12, x -> x.toss(3));
    u.by("dry: toss(7)", -15, x -> x.toss(7));
  }

  private static void copy(Unchanged u, int due, int d, int i, int e, int j, int n) {
    u.by("copy(" + d + ", " + i + ", " + e + ", " + j + ", " + n + ")", due, x -> x.copy(d, i, e, j, n));
  }

  private static void copies(Unchanged u) {
    for (int d : NO_SHELF) {
      copy(u, -1, d, 0, 2, 0, 1);
      copy(u, -1, 2, 0, d, 0, 1);
      copy(u, -1, d, -1, 0, -1, -1);
      copy(u, -1, 0, -1, d, -1, -1);
    }
    int most = Integer.MAX_VALUE;
    int[][] due = {{-11, 0, 0, 2, 0, 1}, {-11, 2, 0, 0, 0, 1}, {-11, 0, 0, 0, 0, 0}, {-11, 0, 0, 1, 0, 1},
        {-11, 1, 0, 0, 0, 1}, {-11, 0, -1, 2, 0, 1}, {-12, 1, 0, 2, 0, 1}, {-12, 2, 0, 1, 0, 1}, {-12, 1, 0, 7, 0, 1},
        {-12, 1, 0, 1, 0, 0}, {-12, 2, 0, 3, 0, 1}, {-12, 3, 0, 2, 0, 1}, {-12, 4, -1, 5, 0, 1}, {-12, 5, 0, 4, 0, -1},
        {-13, 2, 0, 4, 0, 6}, {-13, 2, 20, 4, 0, 5}, {-13, 2, 0, 4, 1, 5}, {-13, 4, 0, 2, 20, 5}, {-13, 4, 1, 2, 0, 5},
        {-13, 2, -1, 4, 0, 1}, {-13, 2, 0, 4, -1, 1}, {-13, 2, 0, 4, 0, -1}, {-13, 3, 0, 5, 0, 6}, {-13, 3, 22, 5, 0, 3},
        {-13, 2, 0, 6, 0, 1}, {-13, 6, 0, 2, 0, 1}, {-13, 2, 25, 4, 0, 0}, {-13, 2, 0, 4, 6, 0}, {-13, 2, 1, 2, 0, 24},
        {-13, 2, most, 4, 0, 1}, {-13, 2, 0, 4, most, 1}, {-13, 2, 1, 4, 1, most}, {-13, 3, most, 5, most, most},
        {0, 2, 24, 4, 5, 0}, {0, 3, 24, 5, 5, 0}, {24, 2, 0, 2, 0, 24}, {5, 2, 0, 4, 0, 5}, {5, 5, 0, 3, 0, 5}};
    for (int[] c : due) {
      copy(u, c[0], c[1], c[2], c[3], c[4], c[5]);
    }
  }

  private static void elements(Unchanged u) {
    for (int d : NO_SHELF) {
      u.byThrowing("element(" + d + ", 0)", "throws.IllegalArgumentException", d, 0);
      u.byThrowing("element(" + d + ", -1)", "throws.IllegalArgumentException", d, -1);
    }
    int[][] none = {{0, 0}, {1, 0}, {7, -1}, {2, 24}, {2, -1}, {3, 24}, {4, 5}, {5, 5}, {6, 0}, {6, -1}};
    for (int[] e : none) {
      u.byThrowing("element(" + e[0] + ", " + e[1] + ")", "throws.IllegalStateException", e[0], e[1]);
    }
    u.byThrowing("no exception: element(3, 23)", "-1", 3, 23);
  }

  /** Calls that tell, and those that set what is set already. */
  private static void toldOnly(Unchanged u) {
    u.by("look(0, 1)", 50, x -> x.look(0, 1));
    u.by("about(1, 1)", 300, x -> x.about(1, 1));
    u.by("way(0)", 0, x -> x.way(0));
    u.by("best()", 0, x -> x.best());
    u.by("order(1)", 1, x -> x.order(1));
    u.by("dry(2)", 7, x -> x.dry(2));
    u.by("count(3)", 3, x -> x.count(3));
    u.by("toss(1)", 5, x -> x.toss(1));
    u.by("weight(7)", 100, x -> x.weight(7));
    u.by("stays: day(3)", 3, x -> x.day(3));
    u.by("as it was: rain(4, true)", 0, x -> x.rain(4, true));
    u.by("as it was: rain(5, false)", 0, x -> x.rain(5, false));
    u.by("as it was: waits(1, true)", 0, x -> x.waits(1, true));
    u.by("as it was: surety(0, 1)", 1, x -> x.surety(0, 1));
    u.by("as it was: surety(1, -1)", -2, x -> x.surety(1, -1));
    u.by("as it was: step(7)", 7, x -> x.step(7));
    u.by("as it was: purse(3, 10)", 10, x -> x.purse(3, 10));
    u.by("as it was: plot(4, 0, 90)", 90, x -> x.plot(4, 0, 90));
    u.by("as it was: keep(0, 0, 0)", 0, x -> x.keep(0, 0, 0));
    u.by("as it was: make(6, 3, 0)", 0, x -> x.make(6, 3, 0));
    u.by("as it was: keep(2, 0, 0) of another object", 0, x -> village().keep(2, 0, 0));
    CandleMeadow y = village();
    int lots = y.lots(4);
    int lotter = y.lotter(4);
    int wins = y.wins(4, 0, 2);
    int ring = y.ring();
    int barn = y.barn(2);
    int worth = y.worth(4, 2);
    u.by("lots(4)", lots, x -> x.lots(4));
    u.by("lotter(4)", lotter, x -> x.lotter(4));
    u.by("wins(4, 0, 2)", wins, x -> x.wins(4, 0, 2));
    u.by("ring()", ring, x -> x.ring());
    u.by("barn(2)", barn, x -> x.barn(2));
    u.by("worth(4, 2)", worth, x -> x.worth(4, 2));
    for (int b = 0; b < 4; b++) {
      int buyer = b;
      int tithe = y.tithe(b);
      u.by("tithe(" + b + ")", tithe, x -> x.tithe(buyer));
      for (int w = 0; w < 4; w++) {
        int what = w;
        int pays = y.pays(b, w);
        u.by("pays(" + b + ", " + w + ")", pays, x -> x.pays(buyer, what));
      }
    }
  }

  /** The questions are worth something only if they see every change that a call may make. */
  private static void changesAreSeen(Unchanged u) {
    u.seen("plot(10, 0, 1)", x -> x.plot(10, 0, 1));
    u.seen("plot(4, 1, 90)", x -> x.plot(4, 1, 90));
    u.seen("buyer(0, 0, 0)", x -> x.buyer(0, 0, 0));
    u.seen("purse(0, 199)", x -> x.purse(0, 199));
    u.seen("waits(0, true)", x -> x.waits(0, true));
    u.seen("surety(1, 0)", x -> x.surety(1, 0));
    u.seen("surety(0, -1)", x -> x.surety(0, -1));
    u.seen("step(8)", x -> x.step(8));
    u.seen("candle(4, 1, 2)", x -> x.candle(4, 1, 2));
    u.seen("day(4)", x -> x.day(4));
    u.seen("rain(29, true)", x -> x.rain(29, true));
    u.seen("cut(0)", x -> x.cut(0));
    u.seen("keep(1, 0, 0)", x -> x.keep(1, 0, 0));
    u.seen("keep(1, 1, 3)", x -> x.keep(1, 1, 3));
    u.seen("make(4, 3, 4)", x -> x.make(4, 3, 4));
    u.seen("make(0, 3, 0)", x -> x.make(0, 3, 0));
    u.seen("copy(2, 0, 4, 1, 1)", x -> x.copy(2, 0, 4, 1, 1));
    u.seen("copy(3, 22, 5, 0, 2)", x -> x.copy(3, 22, 5, 0, 2));
  }

  private static void fullHouse(Unchanged u) {
    u.by("the eleventh: buyer(1, 1, 1)", -2, x -> x.buyer(1, 1, 1));
    u.by("-1 ahead of -2: buyer(51, 1, 1)", -1, x -> x.buyer(51, 1, 1));
    u.by("-1 ahead of -2: buyer(1, 100001, 1)", -1, x -> x.buyer(1, 100001, 1));
    u.by("-1 ahead of -2: buyer(1, 1, 24)", -1, x -> x.buyer(1, 1, 24));
    u.by("surety(9, 10)", -1, x -> x.surety(9, 10));
    u.by("purse(10, 1)", -1, x -> x.purse(10, 1));
    u.by("candle(1, 5, 10)", -1, x -> x.candle(1, 5, 10));
    u.by("seven stand: best()", -5, x -> x.best());
    u.by("seven stand: order(0)", -5, x -> x.order(0));
    u.by("seven stand: order(6)", -5, x -> x.order(6));
    u.by("-1 ahead of -5: order(-1)", -1, x -> x.order(-1));
    u.by("day(31)", -1, x -> x.day(31));
    u.by("day(29)", -1, x -> x.day(29));
    u.by("make(0, 3, 61)", -1, x -> x.make(0, 3, 61));
    copy(u, -13, 0, 0, 2, 1, 60);
    copy(u, -13, 1, 1, 3, 0, 60);
    u.byThrowing("element(0, 60)", "throws.IllegalStateException", 0, 60);
  }

  private static void newMeadow(Unchanged u) {
    u.by("candle(0, 5, 0)", -1, x -> x.candle(0, 5, 0));
    u.by("wins(0, 0, 0)", -1, x -> x.wins(0, 0, 0));
    u.by("lots(0)", -4, x -> x.lots(0));
    u.by("lotter(0)", -4, x -> x.lotter(0));
    u.by("cut(0)", -3, x -> x.cut(0));
    u.by("order(0)", -3, x -> x.order(0));
    u.by("dry(0)", -3, x -> x.dry(0));
    u.by("keep(0, 3, 0)", -1, x -> x.keep(0, 3, 0));
    u.by("weight(0)", -11, x -> x.weight(0));
    copy(u, -11, 0, 0, 1, 0, 0);
    u.byThrowing("element(0, 0)", "throws.IllegalStateException", 0, 0);
  }
}
