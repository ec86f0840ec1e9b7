/** Promises 16 to 21: days, ways to the gate, cutting and the best row. */
public final class MowingTest {
  private static final Due DUE = new Due();

  public static void main(String[] args) {
    day();
    rain();
    way();
    wayAround();
    cut();
    best();
    bestBehindWalls();
    sixAndSeven();
    DUE.end();
  }

  /** Buyer 0 has each plot that is named, with its grass: {plot, grass} by turns. */
  private static CandleMeadow sold(int... plotAndGrass) {
    CandleMeadow x = new CandleMeadow();
    x.buyer(50, 100000, 0);
    for (int i = 0; i < plotAndGrass.length; i += 2) {
      x.plot(plotAndGrass[i], 3, plotAndGrass[i + 1]);
      DUE.is("sold: candle(" + plotAndGrass[i] + ", 1, 0)", x.candle(plotAndGrass[i], 1, 0), 5);
    }
    return x;
  }

  private static void order(CandleMeadow x, int... due) {
    for (int i = 0; i < due.length; i++) {
      DUE.is("order(" + i + ")", x.order(i), due[i]);
    }
    DUE.is("order(" + due.length + ")", x.order(due.length), -3);
  }

  private static void day() {
    CandleMeadow x = new CandleMeadow();
    DUE.is("day(0)", x.day(0), 0);
    DUE.is("day(7)", x.day(7), 0);
    DUE.is("stays: day(7)", x.day(7), 7);
    DUE.is("back: day(6)", x.day(6), -1);
    DUE.is("day(31)", x.day(31), -1);
    DUE.is("day(-1)", x.day(-1), -1);
    DUE.is("count(3)", x.count(3), 7);
    DUE.is("day(30)", x.day(30), 7);
    DUE.is("day(31)", x.day(31), -1);
    DUE.is("day(30)", x.day(30), 30);
  }

  private static void rain() {
    CandleMeadow x = new CandleMeadow();
    DUE.is("rain(0, false)", x.rain(0, false), 0);
    DUE.is("rain(0, true)", x.rain(0, true), 1);
    DUE.is("rain(30, true)", x.rain(30, true), 1);
    DUE.is("rain(30, true) again", x.rain(30, true), 0);
    DUE.is("rain(31, true)", x.rain(31, true), -1);
    DUE.is("rain(-1, true)", x.rain(-1, true), -1);
    DUE.is("count(6)", x.count(6), 2);
    x.day(20);
    DUE.is("a day gone by: rain(0, false)", x.rain(0, false), 1);
    DUE.is("count(6)", x.count(6), 1);
  }

  private static void way() {
    CandleMeadow x = sold(0, 45, 1, 59, 6, 61, 7, 200);
    DUE.is("itself left out: way(0)", x.way(0), 0);
    DUE.is("the gate's tenth, cut: way(1)", x.way(1), 4);
    DUE.is("way(6)", x.way(6), 4);
    DUE.is("each tenth cut: way(7)", x.way(7), 9);
    DUE.is("not sold, too: way(23)", x.way(23), 9);
    DUE.is("round by 1: way(12)", x.way(12), 9);
    DUE.is("way(2)", x.way(2), 9);
    DUE.is("way(24)", x.way(24), -1);
    DUE.is("way(-1)", x.way(-1), -1);
    DUE.is("told only: about(0, 6)", x.about(0, 6), 0);
    DUE.is("look(7, 7)", x.look(7, 7), 1);
    x.plot(2, 0, 200);
    DUE.is("grass not sold is not trampled: way(3)", x.way(3), 9);
  }

  /** A wall of standing grass with one gap far from the straight way. */
  private static void wayAround() {
    CandleMeadow x = sold(2, 100, 8, 100, 14, 100);
    DUE.is("round by the gap at 20: way(5)", x.way(5), 0);
    DUE.is("way(2)", x.way(2), 0);
    CandleMeadow y = sold(2, 100, 8, 100, 14, 100, 20, 90);
    DUE.is("through the thinnest: way(5)", y.way(5), 9);
    DUE.is("way(20)", y.way(20), 0);
    CandleMeadow z = sold(2, 200, 8, 200, 14, 200, 10, 200, 16, 200, 22, 200, 20, 10);
    DUE.is("down at 20, up at 4: way(5)", z.way(5), 1);
  }

  private static void cut() {
    CandleMeadow x = sold(0, 30, 1, 100, 6, 200, 8, 100);
    x.buyer(0, 1000, 7);
    x.plot(7, 0, 100);
    DUE.is("candle(7, 1, 1)", x.candle(7, 1, 1), 5);
    x.day(9);
    DUE.is("cut(7)", x.cut(7), 13);
    DUE.is("its buyer owes: about(1, 6)", x.about(1, 6), 13);
    DUE.is("about(0, 6)", x.about(0, 6), 0);
    DUE.is("grass isn't less: look(1, 1)", x.look(1, 1), 100);
    DUE.is("look(7, 6)", x.look(7, 6), 9);
    DUE.is("cut(8) over the cut 7 and by 1", x.cut(8), 13);
    DUE.is("about(0, 6)", x.about(0, 6), 13);
    DUE.is("twice: cut(8)", x.cut(8), -3);
    DUE.is("not sold: cut(9)", x.cut(9), -3);
    x.plot(9, 0, 50);
    DUE.is("not sold, with grass: cut(9)", x.cut(9), -3);
    DUE.is("cut(24)", x.cut(24), -1);
    DUE.is("cut(-1)", x.cut(-1), -1);
    DUE.is("cut(1)", x.cut(1), 3);
    DUE.is("owed together: about(0, 6)", x.about(0, 6), 16);
    DUE.is("cut(0)", x.cut(0), 0);
    DUE.is("look(0, 7)", x.look(0, 7), 0);
    CandleMeadow z = sold(1, 50);
    z.plot(0, 3, 1);
    DUE.is("one load, beside: candle(0, 1, 0)", z.candle(0, 1, 0), 5);
    DUE.is("one load stands: look(0, 7)", z.look(0, 7), 1);
    DUE.is("one load: cut(0)", z.cut(0), 0);
    CandleMeadow y = sold(1, 50);
    DUE.is("bare, but beside: candle(0, 1, 0)", y.candle(0, 1, 0), 5);
    DUE.is("without grass: cut(0)", y.cut(0), -3);
    DUE.is("look(0, 6)", y.look(0, 6), -2);
  }

  private static void best() {
    CandleMeadow x = sold(23, 20, 0, 20, 1, 20, 6, 20);
    DUE.is("best()", x.best(), 0);
    order(x, 0, 1, 6, 23);
    DUE.is("order(-1)", x.order(-1), -1);
    DUE.is("told only: count(2)", x.count(2), 4);
    x.cut(0);
    DUE.is("best() then", x.best(), 0);
    order(x, 1, 6, 23);
    x.cut(6);
    order(x, 1, 23);
    x.plot(2, 3, 50);
    x.candle(2, 1, 0);
    DUE.is("one more sold: best()", x.best(), 0);
    order(x, 1, 2, 23);
    CandleMeadow y = sold(7, 9, 1, 9, 6, 9);
    DUE.is("no tenths: best()", y.best(), 0);
    order(y, 1, 6, 7);
  }

  /** Walls and corners: whatever stands in front, the row by numbers tramples nothing. */
  private static void bestBehindWalls() {
    int[][] rows = {{1, 6, 7, 12, 13}, {4, 5, 10, 11}, {12, 18, 19}, {4, 5, 10, 11, 16, 17}, {0, 1, 2, 6, 7, 12},
        {17, 22, 23}, {2, 8, 14, 20, 21}, {12, 13, 14, 15, 16, 17}};
    for (int[] row : rows) {
      int[] backwards = new int[2 * row.length];
      for (int i = 0; i < row.length; i++) {
        backwards[2 * i] = row[row.length - 1 - i];
        backwards[2 * i + 1] = 100 + i;
      }
      CandleMeadow x = sold(backwards);
      DUE.is("best()", x.best(), 0);
      order(x, row);
      for (int plot : row) {
        DUE.is("in that row: cut(" + plot + ")", x.cut(plot), 0);
      }
      DUE.is("all in: best()", x.best(), 0);
      DUE.is("all in: order(0)", x.order(0), -3);
    }
  }

  private static void sixAndSeven() {
    CandleMeadow x = sold(0, 10, 1, 10, 2, 10, 3, 10, 4, 10, 5, 10);
    DUE.is("six: best()", x.best(), 0);
    order(x, 0, 1, 2, 3, 4, 5);
    x.plot(6, 3, 10);
    x.candle(6, 1, 0);
    DUE.is("seven: best()", x.best(), -5);
    DUE.is("seven: order(0)", x.order(0), -5);
    DUE.is("seven: order(6)", x.order(6), -5);
    DUE.is("seven: order(-1)", x.order(-1), -1);
    DUE.is("way(5)", x.way(5), 2);
    DUE.is("cut(5)", x.cut(5), 2);
    DUE.is("six again: best()", x.best(), 0);
    order(x, 0, 1, 2, 3, 4, 6);
  }
}
