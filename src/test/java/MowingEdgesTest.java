/** The edges of promises 16 to 21: days, what STANDS, ways, cutting, and how many may be mown in a row. */
public final class MowingEdgesTest {
  private static final Due DUE = new Due();
  private static final int LEAST = Integer.MIN_VALUE;
  private static final int MOST = Integer.MAX_VALUE;

  public static void main(String[] args) {
    dayStaysOrGoesOn();
    dayUpTo30();
    rainOnDaysNoughtTo30();
    eachDayHasItsOwnWeather();
    wayOfAPlot();
    aTenthCut();
    itselfIsLeftOut();
    whatDoesNotStandIsNotTrampled();
    noWayRoundTheEdges();
    noWayOverCorners();
    theWayThatTramplesLeast();
    standsIfSoldNotCutAndWithGrass();
    cutOfNoPlot();
    cutOnTheDay();
    owedByTheBuyerOfThePlotBroughtIn();
    grassIsNotLess();
    rowOfNoneToSix();
    moreThanSixStand();
    whatDoesNotStandIsNotInTheRow();
    placesOfARow();
    theLeastRow();
    DUE.end();
  }

  /** Buyer 0 buys a plot for 5. */
  private static void sell(CandleMeadow x, int plot, int grass) {
    x.plot(plot, 3, grass);
    DUE.is("sold: candle(" + plot + ", 1, 0)", x.candle(plot, 1, 0), 5);
  }

  /** {plot, grass} by turns, all bought by buyer 0. */
  private static CandleMeadow sold(int... plotAndGrass) {
    CandleMeadow x = new CandleMeadow();
    x.buyer(50, 100000, 0);
    for (int i = 0; i < plotAndGrass.length; i += 2) {
      sell(x, plotAndGrass[i], plotAndGrass[i + 1]);
    }
    return x;
  }

  // ---- promise 16: "THE DAY goes on to a later one, or stays: what it was. -1 (up to 30)."

  private static void dayStaysOrGoesOn() {
    CandleMeadow x = new CandleMeadow();
    for (int d = 0; d <= 30; d++) {
      DUE.is("goes on: day(" + d + ")", x.day(d), d == 0 ? 0 : d - 1);
      DUE.is("stays: day(" + d + ")", x.day(d), d);
      DUE.is("back: day(" + (d - 1) + ")", x.day(d - 1), -1);
      DUE.is("back to the first: day(0)", x.day(0), d == 0 ? 0 : -1);
      DUE.is("count(3)", x.count(3), d);
    }
  }

  private static void dayUpTo30() {
    CandleMeadow x = new CandleMeadow();
    int[] none = {-1, 31, LEAST, MOST};
    for (int d : none) {
      DUE.is("day(" + d + ")", x.day(d), -1);
      DUE.is("refused: count(3)", x.count(3), 0);
    }
    DUE.is("day(30)", x.day(30), 0);
    for (int d : none) {
      DUE.is("day(" + d + ")", x.day(d), -1);
    }
    DUE.is("day(29)", x.day(29), -1);
    DUE.is("day(30)", x.day(30), 30);
  }

  // ---- promise 17: rain

  private static void rainOnDaysNoughtTo30() {
    CandleMeadow x = new CandleMeadow();
    int[] none = {-1, 31, LEAST, MOST};
    for (int d : none) {
      DUE.is("rain(" + d + ", true)", x.rain(d, true), -1);
      DUE.is("rain(" + d + ", false)", x.rain(d, false), -1);
    }
    DUE.is("count(6)", x.count(6), 0);
    DUE.is("rain(0, true)", x.rain(0, true), 1);
    DUE.is("rain(0, true)", x.rain(0, true), 0);
    DUE.is("rain(30, true)", x.rain(30, true), 1);
    DUE.is("rain(30, true)", x.rain(30, true), 0);
    DUE.is("count(6)", x.count(6), 2);
    DUE.is("rain(0, false)", x.rain(0, false), 1);
    DUE.is("rain(0, false)", x.rain(0, false), 0);
    x.day(30);
    DUE.is("days gone by: rain(0, true)", x.rain(0, true), 1);
    DUE.is("the day itself: rain(30, false)", x.rain(30, false), 1);
    DUE.is("count(6)", x.count(6), 1);
  }

  private static void eachDayHasItsOwnWeather() {
    CandleMeadow x = new CandleMeadow();
    for (int d = 0; d <= 30; d += 2) {
      DUE.is("rain(" + d + ", true)", x.rain(d, true), 1);
    }
    DUE.is("count(6)", x.count(6), 16);
    for (int d = 0; d <= 30; d++) {
      DUE.is("rain(" + d + ", false)", x.rain(d, false), d % 2 == 0 ? 1 : 0);
    }
    DUE.is("count(6)", x.count(6), 0);
  }

  // ---- promise 18: way

  private static void wayOfAPlot() {
    CandleMeadow x = sold(0, 30);
    int[] none = {-1, 24, LEAST, MOST};
    for (int p : none) {
      DUE.is("way(" + p + ")", x.way(p), -1);
    }
    for (int p = 0; p < 24; p++) {
      DUE.is("sold or not: way(" + p + ")", x.way(p), p == 0 ? 0 : 3);
    }
  }

  /** "of each PLOT on the WAY that STANDS .. a tenth of its GRASS (cut)". */
  private static void aTenthCut() {
    int[] grass = {1, 9, 10, 11, 19, 20, 99, 100, 199, 200};
    int[] due = {0, 0, 1, 1, 1, 2, 9, 10, 19, 20};
    for (int i = 0; i < grass.length; i++) {
      CandleMeadow x = sold(2, 50);
      x.plot(0, 3, grass[i]);
      DUE.is("candle(0, 1, 0)", x.candle(0, 1, 0), grass[i] == 1 ? -4 : 5);
      DUE.is("grass " + grass[i] + " at the gate: way(2)", x.way(2), due[i]);
    }
    CandleMeadow y = sold(0, 19, 1, 19, 2, 19, 3, 19, 6, 200, 7, 200, 8, 200, 9, 200);
    DUE.is("each cut by itself, four times 1: way(4)", y.way(4), 4);
    DUE.is("three times 1: way(3)", y.way(3), 3);
  }

  private static void itselfIsLeftOut() {
    CandleMeadow x = sold(0, 200, 1, 150, 6, 170);
    DUE.is("the gate: way(0)", x.way(0), 0);
    DUE.is("way(1)", x.way(1), 20);
    DUE.is("way(6)", x.way(6), 20);
    DUE.is("by 1, not 6: way(7)", x.way(7), 35);
    DUE.is("gate: cut(0)", x.cut(0), 0);
    DUE.is("cut, no more trampled: way(1)", x.way(1), 0);
    DUE.is("way(7)", x.way(7), 15);
  }

  private static void whatDoesNotStandIsNotTrampled() {
    CandleMeadow x = sold(1, 100, 6, 100);
    x.plot(0, 3, 200);
    DUE.is("not sold: way(1)", x.way(1), 0);
    DUE.is("way(7)", x.way(7), 10);
    DUE.is("candle(0, 1, 0)", x.candle(0, 1, 0), 5);
    DUE.is("sold: way(1)", x.way(1), 20);
    DUE.is("way(7)", x.way(7), 30);
    x.cut(0);
    DUE.is("cut: way(7)", x.way(7), 10);
    x.cut(6);
    DUE.is("both cut: way(7)", x.way(7), 0);
    CandleMeadow y = sold(1, 100, 6, 100);
    DUE.is("bare: candle(0, 1, 0)", y.candle(0, 1, 0), 5);
    DUE.is("sold and bare: way(1)", y.way(1), 0);
  }

  /** Walls from edge to edge: whoever could go round the meadow's edge would trample nothing. */
  private static void noWayRoundTheEdges() {
    for (int wall = 1; wall < 6; wall++) {
      CandleMeadow x = sold(wall, 140, wall + 6, 130, wall + 12, 120, wall + 18, 110);
      for (int p = 0; p < 24; p++) {
        int due = p % 6 > wall ? 11 : 0;
        DUE.is("wall at x " + wall + ": way(" + p + ")", x.way(p), due);
      }
    }
    for (int wall = 1; wall < 4; wall++) {
      CandleMeadow x = new CandleMeadow();
      x.buyer(50, 100000, 0);
      for (int i = 0; i < 6; i++) {
        sell(x, 6 * wall + i, 150 - 10 * i);
      }
      for (int p = 0; p < 24; p++) {
        int due = p / 6 > wall ? 10 : 0;
        DUE.is("wall at y " + wall + ": way(" + p + ")", x.way(p), due);
      }
    }
  }

  /** A wall of plots that meet at corners holds. */
  private static void noWayOverCorners() {
    CandleMeadow x = sold(3, 100, 8, 100, 13, 100, 18, 100);
    int[] behind = {4, 5, 9, 10, 11, 14, 15, 16, 17, 19, 20, 21, 22, 23};
    for (int p : behind) {
      DUE.is("behind the slope: way(" + p + ")", x.way(p), 10);
    }
    int[] before = {0, 1, 2, 6, 7, 12, 3, 8, 13, 18};
    for (int p : before) {
      DUE.is("before it, or of it: way(" + p + ")", x.way(p), 0);
    }
  }

  private static void theWayThatTramplesLeast() {
    CandleMeadow x = sold(1, 200, 6, 10, 7, 10, 8, 10, 2, 200);
    DUE.is("1 and not 20: way(7)", x.way(7), 1);
    DUE.is("round by 14, 13 and 12, 1 and not 2: way(8)", x.way(8), 1);
    DUE.is("as far, and 1: way(14)", x.way(14), 1);
    CandleMeadow u = sold(1, 50, 6, 10, 7, 30, 12, 200, 13, 200, 14, 200, 15, 200, 2, 200, 3, 200);
    DUE.is("1 and 3, not 5, 20 or more: way(8)", u.way(8), 4);
    DUE.is("1, not 5: way(7)", u.way(7), 1);
    CandleMeadow y = sold(1, 30, 6, 20, 12, 20);
    DUE.is("20 and free: way(7)", y.way(7), 2);
    DUE.is("by 7, 3 for 1 or 2 for 6: way(13)", y.way(13), 2);
    CandleMeadow z = sold(1, 49, 6, 40);
    DUE.is("4 either way: way(7)", z.way(7), 4);
    CandleMeadow w = sold(1, 50, 6, 49);
    DUE.is("4, not 5: way(7)", w.way(7), 4);
    CandleMeadow v = sold(1, 200, 7, 200, 13, 200, 15, 200, 21, 200, 9, 200, 5, 200, 11, 200);
    DUE.is("a long way of nothing: way(10)", v.way(10), 0);
    DUE.is("itself left out: way(11)", v.way(11), 0);
  }

  // ---- promise 19: cut, and "A PLOT STANDS, if it is sold, not CUT, and has GRASS"

  private static void standsIfSoldNotCutAndWithGrass() {
    CandleMeadow x = sold(1, 50);
    DUE.is("sold, not cut, with grass: look(1, 7)", x.look(1, 7), 1);
    x.plot(6, 0, 50);
    DUE.is("not sold: look(6, 7)", x.look(6, 7), 0);
    DUE.is("not sold: cut(6)", x.cut(6), -3);
    DUE.is("not sold, bare: cut(23)", x.cut(23), -3);
    DUE.is("bare: candle(0, 1, 0)", x.candle(0, 1, 0), 5);
    DUE.is("sold, bare: look(0, 7)", x.look(0, 7), 0);
    DUE.is("sold, bare: cut(0)", x.cut(0), -3);
    DUE.is("sold, bare: look(0, 6)", x.look(0, 6), -2);
    x.plot(2, 2, 1);
    DUE.is("candle(2, 1, 0)", x.candle(2, 1, 0), 5);
    DUE.is("one load, no hay: look(2, 3)", x.look(2, 3), 0);
    DUE.is("one load: look(2, 7)", x.look(2, 7), 1);
    DUE.is("one load: cut(2)", x.cut(2), 0);
    DUE.is("cut: look(2, 7)", x.look(2, 7), 0);
    DUE.is("cut: cut(2)", x.cut(2), -3);
    DUE.is("count(2)", x.count(2), 1);
  }

  private static void cutOfNoPlot() {
    CandleMeadow x = sold(0, 50);
    int[] none = {-1, 24, LEAST, MOST};
    for (int p : none) {
      DUE.is("cut(" + p + ")", x.cut(p), -1);
    }
    DUE.is("count(2)", x.count(2), 1);
    DUE.is("cut(0)", x.cut(0), 0);
    CandleMeadow y = sold(23, 50);
    DUE.is("cut(23)", y.cut(23), 0);
  }

  private static void cutOnTheDay() {
    int[] days = {0, 1, 29, 30};
    for (int day : days) {
      CandleMeadow x = sold(3, 50, 4, 50);
      x.day(day);
      DUE.is("cut(3)", x.cut(3), 0);
      DUE.is("look(3, 6)", x.look(3, 6), day);
      DUE.is("not cut: look(4, 6)", x.look(4, 6), -2);
      x.day(30);
      DUE.is("twice: cut(3)", x.cut(3), -3);
      DUE.is("the day stays: look(3, 6)", x.look(3, 6), day);
    }
  }

  private static void owedByTheBuyerOfThePlotBroughtIn() {
    CandleMeadow x = sold(0, 90, 1, 90, 6, 90);
    x.buyer(0, 1000, 7);
    x.plot(7, 0, 50);
    x.plot(8, 0, 50);
    DUE.is("candle(7, 1, 1)", x.candle(7, 1, 1), 5);
    DUE.is("candle(8, 1, 1)", x.candle(8, 1, 1), 5);
    DUE.is("told only: way(7)", x.way(7), 18);
    DUE.is("told only: about(1, 6)", x.about(1, 6), 0);
    DUE.is("cut(7)", x.cut(7), 18);
    DUE.is("about(1, 6)", x.about(1, 6), 18);
    DUE.is("cut(8)", x.cut(8), 18);
    DUE.is("together: about(1, 6)", x.about(1, 6), 36);
    DUE.is("the other's were trampled: about(0, 6)", x.about(0, 6), 0);
    DUE.is("refused: cut(8)", x.cut(8), -3);
    DUE.is("about(1, 6)", x.about(1, 6), 36);
    DUE.is("its own, too: cut(1)", x.cut(1), 9);
    DUE.is("about(0, 6)", x.about(0, 6), 9);
  }

  private static void grassIsNotLess() {
    CandleMeadow x = sold(0, 90, 1, 90);
    DUE.is("cut(1)", x.cut(1), 9);
    DUE.is("trampled: look(0, 1)", x.look(0, 1), 90);
    DUE.is("trampled: look(0, 3)", x.look(0, 3), 85);
    DUE.is("cut: look(1, 1)", x.look(1, 1), 90);
    DUE.is("cut: look(1, 3)", x.look(1, 3), 85);
  }

  // ---- promises 20 and 21: best and order

  private static void order(CandleMeadow x, int... due) {
    DUE.is("best()", x.best(), 0);
    for (int i = 0; i < due.length; i++) {
      DUE.is("order(" + i + ")", x.order(i), due[i]);
    }
    DUE.is("not so many: order(" + due.length + ")", x.order(due.length), -3);
  }

  private static void rowOfNoneToSix() {
    order(new CandleMeadow());
    CandleMeadow x = sold();
    int[] plots = {23, 17, 11, 5, 4, 3};
    order(x);
    for (int n = 1; n <= 6; n++) {
      sell(x, plots[n - 1], 100);
      int[] due = new int[n];
      for (int i = 0; i < n; i++) {
        due[i] = plots[n - 1 - i];
      }
      order(x, due);
    }
    for (int n = 6; n >= 1; n--) {
      x.cut(plots[6 - n]);
      int[] due = new int[n - 1];
      for (int i = 0; i < n - 1; i++) {
        due[i] = plots[5 - i];
      }
      order(x, due);
    }
  }

  private static void moreThanSixStand() {
    CandleMeadow x = sold(0, 10, 1, 10, 2, 10, 3, 10, 4, 10, 5, 10);
    order(x, 0, 1, 2, 3, 4, 5);
    for (int p = 6; p < 24; p++) {
      sell(x, p, 100);
      DUE.is(p + 1 + " stand: best()", x.best(), -5);
      DUE.is(p + 1 + " stand: order(0)", x.order(0), -5);
      DUE.is(p + 1 + " stand: order(5)", x.order(5), -5);
      DUE.is(p + 1 + " stand: order(6)", x.order(6), -5);
      DUE.is(p + 1 + " stand, -1 ahead of -5: order(-1)", x.order(-1), -1);
    }
    for (int p = 23; p >= 7; p--) {
      x.cut(p);
      DUE.is(p + " stand: best()", x.best(), p > 6 ? -5 : 0);
    }
    DUE.is("seven: order(0)", x.order(0), -5);
    x.cut(0);
    order(x, 1, 2, 3, 4, 5, 6);
  }

  private static void whatDoesNotStandIsNotInTheRow() {
    CandleMeadow x = sold(0, 10, 1, 10, 2, 10, 3, 10, 4, 10, 5, 10);
    x.plot(7, 0, 100);
    order(x, 0, 1, 2, 3, 4, 5);
    DUE.is("bare, beside 0: candle(6, 1, 0)", x.candle(6, 1, 0), 5);
    DUE.is("count(1)", x.count(1), 7);
    order(x, 0, 1, 2, 3, 4, 5);
    x.cut(3);
    order(x, 0, 1, 2, 4, 5);
    DUE.is("candle(7, 1, 0)", x.candle(7, 1, 0), 5);
    order(x, 0, 1, 2, 4, 5, 7);
  }

  private static void placesOfARow() {
    CandleMeadow x = sold(4, 50, 9, 50);
    DUE.is("order(-1)", x.order(-1), -1);
    DUE.is("order(least)", x.order(LEAST), -1);
    DUE.is("order(0)", x.order(0), 4);
    DUE.is("order(1)", x.order(1), 9);
    int[] beyond = {2, 3, 5, 6, 7, 23, 24, MOST};
    for (int i : beyond) {
      DUE.is("order(" + i + ")", x.order(i), -3);
    }
    CandleMeadow y = new CandleMeadow();
    DUE.is("empty: order(-1)", y.order(-1), -1);
    DUE.is("empty: order(most)", y.order(MOST), -3);
  }

  /** "of several the least as a row": where grass is too thin to count, every row tramples nothing. */
  private static void theLeastRow() {
    CandleMeadow x = sold(11, 9, 2, 9, 6, 9, 13, 9);
    order(x, 2, 6, 11, 13);
    CandleMeadow y = sold(0, 200, 1, 200, 7, 200, 13, 200);
    order(y, 0, 1, 7, 13);
    int[] row = {0, 1, 7, 13};
    for (int p : row) {
      DUE.is("told only: count(2)", y.count(2) > 0 ? 1 : 0, 1);
      DUE.is("in that row: cut(" + p + ")", y.cut(p), 0);
    }
    DUE.is("about(0, 6)", y.about(0, 6), 0);
  }
}
