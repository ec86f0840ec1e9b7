/** The edges of promises 11 to 15: each sentence on the candle, the lots and the ring a test of its own. */
public final class SaleEdgesTest {
  private static final Due DUE = new Due();
  private static final int LEAST = Integer.MIN_VALUE;
  private static final int MOST = Integer.MAX_VALUE;

  public static void main(String[] args) {
    breathsFrom1To60();
    firstIsABuyer();
    plotOfACandle();
    soldOnce();
    turnsGoRound();
    firstBidIsAStep();
    worthAtMost();
    purseLeftAtMost();
    purseLeftIsLessByDebt();
    lastBidNotItsOwn();
    waitsUntilThreeRounds();
    waitsAlone();
    waitsInAShortCandle();
    lastBreathCounts();
    greatestBids();
    nobodyBids();
    barePlotIsSold();
    winsAreCandles();
    winsFromNoughtTo60();
    winsRefusals();
    capOfAStep();
    capIsTheLesser();
    likeCapsTheFirst();
    aStepMoreThanTheNext();
    lotsRefusals();
    ringAtFirstAndBehindRefusals();
    ringIsToldJustAheadOfTheSale();
    ringOfAllPlots();
    DUE.end();
  }

  /** So many buyers without cows, each with a purse and a home at plot 0, whose grass is worth 10 a load of hay. */
  private static CandleMeadow village(int buyers, int purse, int kind, int grass) {
    CandleMeadow x = new CandleMeadow();
    for (int b = 0; b < buyers; b++) {
      x.buyer(0, purse, 0);
    }
    x.plot(0, kind, grass);
    return x;
  }

  private static void sale(CandleMeadow x, int breaths, int first, int bid, int owner) {
    String told = "candle(0, " + breaths + ", " + first + ")";
    DUE.is(told, x.candle(0, breaths, first), bid);
    DUE.is(told + ", look(0, 4)", x.look(0, 4), owner);
    DUE.is(told + ", look(0, 5)", x.look(0, 5), bid < 0 ? -2 : bid);
  }

  // ---- promise 11: candle

  private static void breathsFrom1To60() {
    int[] none = {0, -1, 61, LEAST, MOST};
    CandleMeadow x = village(2, 1000, 0, 100);
    for (int b : none) {
      DUE.is("candle(0, " + b + ", 0)", x.candle(0, b, 0), -1);
      DUE.is("not sold: look(0, 4)", x.look(0, 4), -2);
    }
    sale(x, 1, 0, 5, 0);
    sale(village(2, 1000, 0, 100), 60, 0, 300, 1);
    sale(village(2, 1000, 0, 100), 59, 0, 295, 0);
  }

  private static void firstIsABuyer() {
    for (int n = 1; n <= 10; n++) {
      CandleMeadow x = village(n, 1000, 0, 100);
      int[] none = {-1, n, 10, LEAST, MOST};
      for (int first : none) {
        DUE.is(n + " buyers: candle(0, 1, " + first + ")", x.candle(0, 1, first), -1);
      }
      DUE.is("not sold: look(0, 4)", x.look(0, 4), -2);
      sale(x, 1, n - 1, 5, n - 1);
    }
    CandleMeadow y = new CandleMeadow();
    y.plot(0, 0, 100);
    DUE.is("no buyers: candle(0, 1, 0)", y.candle(0, 1, 0), -1);
  }

  private static void plotOfACandle() {
    CandleMeadow x = village(1, 1000, 0, 100);
    int[] none = {-1, 24, LEAST, MOST};
    for (int p : none) {
      DUE.is("candle(" + p + ", 1, 0)", x.candle(p, 1, 0), -1);
    }
    x.plot(23, 0, 100);
    DUE.is("candle(23, 1, 0)", x.candle(23, 1, 0), 5);
    DUE.is("candle(0, 1, 0)", x.candle(0, 1, 0), 5);
    DUE.is("count(1)", x.count(1), 2);
  }

  private static void soldOnce() {
    CandleMeadow x = village(2, 1000, 0, 100);
    sale(x, 1, 0, 5, 0);
    DUE.is("sold: candle(0, 2, 1)", x.candle(0, 2, 1), -3);
    DUE.is("-1 ahead of -3: candle(0, 0, 1)", x.candle(0, 0, 1), -1);
    DUE.is("-1 ahead of -3: candle(0, 61, 1)", x.candle(0, 61, 1), -1);
    DUE.is("-1 ahead of -3: candle(0, 1, 2)", x.candle(0, 1, 2), -1);
    x.cut(0);
    DUE.is("cut: candle(0, 2, 1)", x.candle(0, 2, 1), -3);
    DUE.is("look(0, 4)", x.look(0, 4), 0);
    DUE.is("about(0, 5)", x.about(0, 5), 5);
    DUE.is("about(1, 5)", x.about(1, 5), 0);
  }

  /** "it is the turn of BUYER (first + b) modulo how many there are", seen by who is last. */
  private static void turnsGoRound() {
    for (int n = 2; n <= 10; n++) {
      for (int first = 0; first < n; first++) {
        int[] candles = {1, n - first, n - first + 1, n, n + 1, 2 * n, 60};
        for (int breaths : candles) {
          sale(village(n, 1000, 0, 100), breaths, first, 5 * breaths, (first + breaths - 1) % n);
        }
      }
    }
  }

  private static void firstBidIsAStep() {
    int[] steps = {1, 2, 99, 100};
    for (int step : steps) {
      CandleMeadow x = village(2, 1000, 0, 100);
      x.step(step);
      sale(x, 1, 1, step, 1);
      CandleMeadow y = village(2, 1000, 0, 100);
      y.step(step);
      sale(y, 2, 1, 2 * step, 0);
    }
  }

  /** Worth is 40: a step of 40 may be bid, one of 41 not; two steps of 20, but not of 21. */
  private static void worthAtMost() {
    int[][] due = {{39, 1, 39, 0}, {40, 1, 40, 0}, {41, 1, -4, -2}, {20, 2, 40, 1}, {21, 2, 21, 0}, {20, 3, 40, 1},
        {10, 4, 40, 1}, {10, 5, 40, 1}, {13, 3, 39, 0}, {13, 4, 39, 0}, {14, 3, 28, 1}};
    for (int[] d : due) {
      CandleMeadow x = village(2, 100000, 0, 5);
      x.step(d[0]);
      sale(x, d[1], 0, d[2], d[3]);
    }
  }

  private static void purseLeftAtMost() {
    int[][] due = {{4, 1, -4, -2}, {5, 1, 5, 0}, {6, 1, 5, 0}, {9, 2, 5, 0}, {10, 2, 10, 1}, {14, 3, 10, 1},
        {15, 3, 15, 0}, {0, 60, -4, -2}};
    for (int[] d : due) {
      sale(village(2, d[0], 0, 100), d[1], 0, d[2], d[3]);
    }
  }

  /** A debt of 60 out of 70 leaves 10; out of 64 less than a step; out of 59 less than nothing. */
  private static void purseLeftIsLessByDebt() {
    int[][] due = {{70, 5, 5}, {65, 5, 5}, {64, 5, -4}, {60, 5, -4}, {59, 5, -4}, {0, 5, -4}, {70, 10, 10}, {70, 11, -4}};
    for (int[] d : due) {
      CandleMeadow x = village(1, 100, 0, 100);
      x.plot(3, 0, 100);
      x.step(60);
      DUE.is("candle(3, 1, 0)", x.candle(3, 1, 0), 60);
      x.purse(0, d[0]);
      x.step(d[1]);
      sale(x, 60, 0, d[2], d[2] < 0 ? -2 : 0);
      DUE.is("its debt: about(0, 5)", x.about(0, 5), d[2] < 0 ? 60 : 60 + d[2]);
      DUE.is("its purse stays: about(0, 1)", x.about(0, 1), d[0]);
    }
  }

  private static void lastBidNotItsOwn() {
    sale(village(1, 1000, 0, 100), 60, 0, 5, 0);
    CandleMeadow x = village(3, 1000, 0, 100);
    x.purse(0, 4);
    x.purse(2, 9);
    sale(x, 60, 0, 5, 1);
    CandleMeadow y = village(3, 1000, 0, 100);
    y.purse(0, 4);
    y.purse(2, 10);
    sale(y, 60, 0, 15, 1);
  }

  /** "if it WAITS, B - b is 3 times the number of BUYERS at most": with first at its turn in breath 0. */
  private static void waitsUntilThreeRounds() {
    for (int n = 1; n <= 10; n++) {
      CandleMeadow x = village(n, 4, 0, 100);
      x.purse(0, 5);
      x.waits(0, true);
      sale(x, 3 * n, 0, 5, 0);
      CandleMeadow y = village(n, 4, 0, 100);
      y.purse(n - 1, 7);
      y.waits(n - 1, true);
      if (n > 1) {
        DUE.is("too early by one, and too late by none: wins(0, " + (n - 1) + ", " + (n - 1) + ")",
            y.wins(0, n - 1, n - 1), 60);
      }
    }
    CandleMeadow z = village(2, 1000, 0, 100);
    z.waits(0, true);
    DUE.is("breath 0 of 6 is not too early: candle(0, 6, 0)", z.candle(0, 6, 0), 30);
    CandleMeadow w = village(2, 1000, 0, 100);
    w.waits(0, true);
    DUE.is("breath 0 of 7 is too early: candle(0, 7, 0)", w.candle(0, 7, 0), 30);
    CandleMeadow v = village(2, 1000, 0, 100);
    v.waits(0, true);
    v.waits(1, true);
    DUE.is("all wait, the last 6 of 60: candle(0, 60, 0)", v.candle(0, 60, 0), 30);
    CandleMeadow u = village(2, 1000, 0, 100);
    u.waits(0, true);
    u.waits(1, true);
    u.waits(0, false);
    DUE.is("no longer, 1 from breath 54 on: candle(0, 59, 0)", u.candle(0, 59, 0), 35);
  }

  /** With one buyer the last three breaths of any candle are not too early. */
  private static void waitsAlone() {
    int[] candles = {1, 2, 3, 4, 60};
    for (int breaths : candles) {
      CandleMeadow x = village(1, 1000, 0, 100);
      x.waits(0, true);
      sale(x, breaths, 0, 5, 0);
    }
  }

  private static void waitsInAShortCandle() {
    for (int breaths = 1; breaths <= 30; breaths++) {
      CandleMeadow x = village(10, 1000, 0, 100);
      for (int b = 0; b < 10; b++) {
        x.waits(b, true);
      }
      sale(x, breaths, 4, 5 * breaths, (4 + breaths - 1) % 10);
    }
    for (int breaths = 31; breaths <= 60; breaths++) {
      CandleMeadow x = village(10, 1000, 0, 100);
      for (int b = 0; b < 10; b++) {
        x.waits(b, true);
      }
      sale(x, breaths, 4, 150, (4 + breaths - 1) % 10);
    }
  }

  /** "Behind the last breath the PLOT is the last bidder's for that bid": whoever comes a breath later gets nothing. */
  private static void lastBreathCounts() {
    CandleMeadow x = village(3, 4, 0, 100);
    x.purse(2, 100);
    sale(x, 2, 0, -4, -2);
    sale(x, 3, 0, 5, 2);
    DUE.is("about(2, 5)", x.about(2, 5), 5);
    DUE.is("about(0, 5)", x.about(0, 5), 0);
    DUE.is("about(2, 4)", x.about(2, 4), 80);
  }

  /** Worth is 3800 to both: 60 bids of 63 make 3780, of 64 the 60th would be 3840. */
  private static void greatestBids() {
    int[][] due = {{63, 3780, 1}, {64, 3776, 0}, {100, 3800, 1}};
    for (int[] d : due) {
      CandleMeadow x = new CandleMeadow();
      x.buyer(50, 100000, 0);
      x.buyer(50, 100000, 0);
      x.plot(0, 3, 200);
      x.step(d[0]);
      sale(x, 60, 0, d[1], d[2]);
    }
  }

  private static void nobodyBids() {
    CandleMeadow x = village(2, 4, 0, 100);
    sale(x, 60, 0, -4, -2);
    DUE.is("count(1)", x.count(1), 0);
    DUE.is("about(0, 5)", x.about(0, 5), 0);
    DUE.is("ring()", x.ring(), 0);
    x.purse(1, 5);
    sale(x, 60, 0, 5, 1);
  }

  private static void barePlotIsSold() {
    CandleMeadow x = village(1, 1000, 0, 0);
    sale(x, 60, 0, -4, -2);
    x.plot(1, 0, 10);
    DUE.is("candle(1, 1, 0)", x.candle(1, 1, 0), 5);
    sale(x, 60, 0, 5, 0);
    DUE.is("bare, it doesn't stand: look(0, 7)", x.look(0, 7), 0);
    DUE.is("count(1)", x.count(1), 2);
    DUE.is("count(2)", x.count(2), 1);
  }

  // ---- promise 12: wins

  /** Four buyers of several means; buyer 1 waits. */
  private static CandleMeadow four(int first) {
    CandleMeadow x = village(4, 30, 0, 20);
    x.purse(1, 100);
    x.waits(1, true);
    x.purse(2, 44);
    x.purse(3, 12 + first);
    return x;
  }

  private static void winsAreCandles() {
    for (int first = 0; first < 4; first++) {
      int[] owners = new int[4];
      for (int breaths = 1; breaths <= 60; breaths++) {
        CandleMeadow x = four(first);
        if (x.candle(0, breaths, first) > 0) {
          owners[x.look(0, 4)]++;
        }
      }
      CandleMeadow y = four(first);
      int together = 0;
      for (int b = 0; b < 4; b++) {
        DUE.is("wins(0, " + first + ", " + b + ")", y.wins(0, first, b), owners[b]);
        together += owners[b];
      }
      DUE.is("all candles", together, 60);
      DUE.is("nothing is sold: count(1)", y.count(1), 0);
    }
  }

  private static void winsFromNoughtTo60() {
    DUE.is("alone: wins(0, 0, 0)", village(1, 5, 0, 100).wins(0, 0, 0), 60);
    DUE.is("a purse of 4: wins(0, 0, 0)", village(1, 4, 0, 100).wins(0, 0, 0), 0);
    CandleMeadow x = village(2, 4, 0, 100);
    x.purse(1, 5);
    DUE.is("from breath 1 on: wins(0, 0, 1)", x.wins(0, 0, 1), 59);
    DUE.is("from breath 0 on: wins(0, 1, 1)", x.wins(0, 1, 1), 60);
    DUE.is("the other: wins(0, 0, 0)", x.wins(0, 0, 0), 0);
    CandleMeadow y = village(10, 4, 0, 100);
    y.purse(9, 5);
    DUE.is("from breath 9 on: wins(0, 0, 9)", y.wins(0, 0, 9), 51);
  }

  private static void winsRefusals() {
    CandleMeadow x = village(2, 100, 0, 100);
    int[] noPlot = {-1, 24, LEAST, MOST};
    for (int p : noPlot) {
      DUE.is("wins(" + p + ", 0, 0)", x.wins(p, 0, 0), -1);
    }
    int[] nobody = {-1, 2, 10, LEAST, MOST};
    for (int b : nobody) {
      DUE.is("wins(0, " + b + ", 0)", x.wins(0, b, 0), -1);
      DUE.is("wins(0, 0, " + b + ")", x.wins(0, 0, b), -1);
    }
    DUE.is("bare and last: wins(23, 1, 1)", x.wins(23, 1, 1), 0);
    x.candle(0, 1, 0);
    DUE.is("sold: wins(0, 0, 0)", x.wins(0, 0, 0), -3);
    DUE.is("-1 ahead of -3: wins(0, 2, 0)", x.wins(0, 2, 0), -1);
    DUE.is("-1 ahead of -3: wins(0, 0, 2)", x.wins(0, 0, 2), -1);
  }

  // ---- promises 13 and 14: lots and lotter

  private static void lots(CandleMeadow x, int price, int taker) {
    DUE.is("lots(0)", x.lots(0), price);
    DUE.is("lotter(0)", x.lotter(0), taker);
  }

  /** "BUYERS whose CAP .. is STEP or more". */
  private static void capOfAStep() {
    CandleMeadow x = village(1, 50, 0, 100);
    x.step(50);
    lots(x, 50, 0);
    x.purse(0, 49);
    lots(x, -4, -4);
    CandleMeadow y = village(2, 500, 0, 100);
    y.step(50);
    y.purse(0, 49);
    lots(y, 50, 1);
    y.purse(0, 50);
    lots(y, 100, 1);
    CandleMeadow z = village(1, 500, 0, 5);
    z.step(40);
    lots(z, 40, 0);
    z.step(41);
    lots(z, -4, -4);
    lots(village(10, 4, 0, 100), -4, -4);
    lots(village(0, 0, 0, 100), -4, -4);
    lots(village(1, 100000, 0, 0), -4, -4);
  }

  /** "CAP (the lesser of WORTH and PURSE LEFT)": worth is 800, less 40 for the home at 23. */
  private static void capIsTheLesser() {
    CandleMeadow x = village(1, 1000, 0, 100);
    x.buyer(0, 1000, 23);
    lots(x, 765, 0);
    x.purse(0, 759);
    lots(x, 760, 1);
    x.purse(0, 760);
    lots(x, 760, 0);
    x.purse(0, 761);
    lots(x, 761, 0);
    x.plot(1, 0, 100);
    DUE.is("candle(1, 1, 0)", x.candle(1, 1, 0), 5);
    lots(x, 760, 1);
    x.purse(0, 765);
    lots(x, 760, 0);
    x.purse(0, 0);
    lots(x, 5, 1);
  }

  private static void likeCapsTheFirst() {
    CandleMeadow x = village(10, 100, 0, 100);
    lots(x, 100, 0);
    x.purse(0, 99);
    lots(x, 100, 1);
    for (int b = 1; b < 9; b++) {
      x.purse(b, 50);
    }
    lots(x, 100, 9);
    x.purse(9, 99);
    lots(x, 99, 0);
  }

  /** "for STEP more than the next greatest CAP of these, its own CAP at most (for STEP, if there is no other)". */
  private static void aStepMoreThanTheNext() {
    int[][] due = {{100, 94, 99}, {100, 95, 100}, {100, 96, 100}, {100, 99, 100}, {100, 100, 100}, {100, 5, 10},
        {100, 4, 5}, {9, 5, 9}, {5, 5, 5}, {5, 4, 5}};
    for (int[] d : due) {
      CandleMeadow x = village(3, 0, 0, 100);
      x.purse(2, d[0]);
      x.purse(0, d[1]);
      lots(x, d[2], d[0] == d[1] ? 0 : 2);
    }
    CandleMeadow y = village(3, 0, 0, 100);
    y.purse(0, 60);
    y.purse(1, 50);
    y.purse(2, 70);
    lots(y, 65, 2);
  }

  private static void lotsRefusals() {
    CandleMeadow x = village(1, 100, 0, 100);
    int[] none = {-1, 24, LEAST, MOST};
    for (int p : none) {
      DUE.is("lots(" + p + ")", x.lots(p), -1);
      DUE.is("lotter(" + p + ")", x.lotter(p), -1);
    }
    DUE.is("bare: lots(23)", x.lots(23), -4);
    DUE.is("bare: lotter(23)", x.lotter(23), -4);
    x.candle(0, 1, 0);
    lots(x, -3, -3);
    x.purse(0, 0);
    lots(x, -3, -3);
    x.cut(0);
    lots(x, -3, -3);
  }

  // ---- promise 15: ring

  private static void ringAtFirstAndBehindRefusals() {
    CandleMeadow x = village(2, 100, 0, 100);
    DUE.is("at first: ring()", x.ring(), 0);
    x.lots(0);
    x.lotter(0);
    x.wins(0, 0, 0);
    x.candle(0, 61, 0);
    x.candle(5, 60, 0);
    DUE.is("told, refused, nobody: ring()", x.ring(), 0);
    sale(x, 1, 0, 5, 0);
    DUE.is("5 for 100: ring()", x.ring(), -95);
    x.candle(0, 1, 0);
    DUE.is("refused: ring()", x.ring(), -95);
    x.purse(0, 0);
    x.purse(1, 0);
    x.step(100);
    x.cut(0);
    DUE.is("what comes later is nothing to it: ring()", x.ring(), -95);
  }

  /** Lots bring 45 ahead of the sale; behind it buyer 0 had 30 left, and they would bring 35. */
  private static void ringIsToldJustAheadOfTheSale() {
    CandleMeadow x = village(2, 50, 0, 100);
    x.purse(1, 40);
    lots(x, 45, 0);
    sale(x, 4, 1, 20, 0);
    DUE.is("ring()", x.ring(), -25);
    CandleMeadow y = village(2, 50, 0, 100);
    y.plot(1, 0, 100);
    DUE.is("candle(1, 3, 0)", y.candle(1, 3, 0), 15);
    DUE.is("15 for 50: ring()", y.ring(), -35);
    lots(y, 40, 1);
    sale(y, 1, 1, 5, 1);
    DUE.is("and 5 for 40: ring()", y.ring(), -70);
  }

  private static void ringOfAllPlots() {
    CandleMeadow x = new CandleMeadow();
    x.buyer(50, 100000, 0);
    x.buyer(50, 100000, 23);
    int due = 0;
    for (int p = 0; p < 24; p++) {
      x.plot(p, 3, 200);
      int lots = x.lots(p);
      int bid = x.candle(p, 1 + p, p % 2);
      DUE.is("candle(" + p + ", " + (1 + p) + ", " + p % 2 + ")", bid, 5 * (1 + p));
      due += bid - lots;
      DUE.is("ring()", x.ring(), due);
    }
    DUE.is("far below 0", x.ring() < -20000 ? 1 : 0, 1);
    DUE.is("alone for a step: 0", alone().ring(), 0);
  }

  private static CandleMeadow alone() {
    CandleMeadow x = village(1, 1000, 0, 100);
    x.candle(0, 60, 0);
    return x;
  }
}
