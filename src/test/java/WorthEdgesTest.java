/** The edges of WORTH (promise 10), of the meadow's shape and of the counts (promise 26). */
public final class WorthEdgesTest {
  private static final Due DUE = new Due();
  private static final int LEAST = Integer.MIN_VALUE;
  private static final int MOST = Integer.MAX_VALUE;

  public static void main(String[] args) {
    stepsBetweenAllPlots();
    sidesInCommonOfAllPlots();
    besideCountsOnce();
    besideOfAnotherCountsNothing();
    besideStaysWhenCut();
    doubledBelowNeed();
    needOfSeveralPlots();
    cutHayStillFeeds();
    noCowsNoNeed();
    neverBelowNought();
    besideLiftsOverNought();
    greatestWorth();
    worthOfNoPlotOrBuyer();
    countsAtTheirLeast();
    countsAtTheirMost();
    countOfOthers();
    DUE.end();
  }

  private static int steps(int p, int q) {
    return Math.abs(p % 6 - q % 6) + Math.abs(p / 6 - q / 6);
  }

  /** "less 5 for each step (east, north) between it and the home", on 6 by 4 plots. */
  private static void stepsBetweenAllPlots() {
    for (int start = 0; start < 24; start += 8) {
      CandleMeadow x = new CandleMeadow();
      for (int p = 0; p < 24; p++) {
        x.plot(p, 0, 100);
      }
      for (int b = 0; b < 8; b++) {
        x.buyer(0, 1000, start + b);
        for (int p = 0; p < 24; p++) {
          int due = 800 - 5 * steps(p, start + b);
          DUE.is("home " + (start + b) + ": worth(" + p + ", " + b + ")", x.worth(p, b), due);
        }
      }
    }
    CandleMeadow y = new CandleMeadow();
    y.plot(23, 0, 100);
    y.buyer(0, 0, 0);
    DUE.is("eight steps from corner to corner: worth(23, 0)", y.worth(23, 0), 760);
  }

  /** "20 more if a PLOT with a side in common is the BUYER's": not by a corner, nor round an edge. */
  private static void sidesInCommonOfAllPlots() {
    for (int p = 0; p < 24; p++) {
      CandleMeadow x = new CandleMeadow();
      x.buyer(0, 1000, p);
      x.plot(p, 0, 50);
      DUE.is("candle(" + p + ", 1, 0)", x.candle(p, 1, 0), 5);
      DUE.is("itself is not beside: worth(" + p + ", 0)", x.worth(p, 0), 400);
      int beside = 0;
      for (int q = 0; q < 24; q++) {
        x.plot(q, 0, 50);
        int more = steps(p, q) == 1 ? 20 : 0;
        DUE.is(p + " is the buyer's: worth(" + q + ", 0)", x.worth(q, 0), 400 - 5 * steps(p, q) + more);
        beside += more / 20;
      }
      int edges = (p % 6 == 0 || p % 6 == 5 ? 1 : 0) + (p / 6 == 0 || p / 6 == 3 ? 1 : 0);
      DUE.is("how many are beside " + p, beside, 4 - edges);
    }
  }

  private static void besideCountsOnce() {
    CandleMeadow x = new CandleMeadow();
    x.buyer(0, 1000, 8);
    x.plot(8, 0, 50);
    int[] around = {7, 9, 2, 14};
    DUE.is("none beside: worth(8, 0)", x.worth(8, 0), 400);
    for (int p : around) {
      x.plot(p, 0, 50);
      DUE.is("candle(" + p + ", 1, 0)", x.candle(p, 1, 0), 5);
      DUE.is("one to four beside: worth(8, 0)", x.worth(8, 0), 420);
    }
  }

  private static void besideOfAnotherCountsNothing() {
    CandleMeadow x = new CandleMeadow();
    x.buyer(0, 1000, 8);
    x.buyer(0, 1000, 8);
    x.plot(8, 0, 50);
    x.plot(9, 0, 50);
    x.candle(9, 1, 1);
    DUE.is("another's: worth(8, 0)", x.worth(8, 0), 400);
    DUE.is("its own: worth(8, 1)", x.worth(8, 1), 420);
    DUE.is("sold already, but told: worth(9, 0)", x.worth(9, 0), 395);
  }

  private static void besideStaysWhenCut() {
    CandleMeadow x = new CandleMeadow();
    x.buyer(0, 1000, 8);
    x.plot(8, 0, 50);
    x.plot(9, 0, 50);
    x.candle(9, 1, 0);
    x.cut(9);
    DUE.is("cut, still the buyer's: worth(8, 0)", x.worth(8, 0), 420);
    DUE.is("of a cut one: worth(9, 0)", x.worth(9, 0), 395);
  }

  /** One COW needs 12: grass of 14, 15, 16 and 17 loads is hay of 11, 12, 12 and 13. */
  private static void doubledBelowNeed() {
    int[] grass = {13, 14, 15, 16, 17};
    int[] hay = {10, 11, 12, 12, 13};
    for (int i = 0; i < grass.length; i++) {
      CandleMeadow x = new CandleMeadow();
      x.buyer(1, 1000, 0);
      x.plot(0, 0, grass[i]);
      x.plot(3, 0, 50);
      DUE.is("nothing yet, doubled: worth(3, 0)", x.worth(3, 0), 770);
      x.candle(0, 1, 0);
      DUE.is("about(0, 4)", x.about(0, 4), hay[i]);
      DUE.is("about(0, 3)", x.about(0, 3), 12);
      DUE.is("hay " + hay[i] + " of 12: worth(3, 0)", x.worth(3, 0), hay[i] < 12 ? 770 : 385);
    }
  }

  private static void needOfSeveralPlots() {
    CandleMeadow x = new CandleMeadow();
    x.buyer(2, 1000, 5);
    x.plot(0, 0, 15);
    x.plot(5, 0, 14);
    x.plot(11, 0, 2);
    x.plot(3, 0, 50);
    x.candle(0, 1, 0);
    DUE.is("12 of 24: worth(3, 0)", x.worth(3, 0), 780);
    x.candle(5, 1, 0);
    DUE.is("23 together: about(0, 4)", x.about(0, 4), 23);
    DUE.is("23 of 24: worth(3, 0)", x.worth(3, 0), 780);
    DUE.is("candle(11, 1, 0)", x.candle(11, 1, 0), 5);
    DUE.is("24 together: about(0, 4)", x.about(0, 4), 24);
    DUE.is("24 of 24: worth(3, 0)", x.worth(3, 0), 390);
  }

  private static void cutHayStillFeeds() {
    CandleMeadow x = new CandleMeadow();
    x.buyer(1, 1000, 0);
    x.plot(0, 0, 15);
    x.plot(3, 0, 50);
    x.candle(0, 1, 0);
    x.cut(0);
    DUE.is("cut: about(0, 4)", x.about(0, 4), 12);
    DUE.is("cut: worth(3, 0)", x.worth(3, 0), 385);
    x.day(30);
    DUE.is("about(0, 4) on the last day", x.about(0, 4), 12);
  }

  /** Hay of 0 is not below a need of 0. */
  private static void noCowsNoNeed() {
    CandleMeadow x = new CandleMeadow();
    x.buyer(0, 1000, 0);
    x.buyer(1, 1000, 0);
    x.plot(0, 0, 50);
    DUE.is("no cows: worth(0, 0)", x.worth(0, 0), 400);
    DUE.is("one cow: worth(0, 1)", x.worth(0, 1), 800);
  }

  /** A load of hay is worth 10, two steps off nothing, three steps off less than nothing. */
  private static void neverBelowNought() {
    CandleMeadow x = new CandleMeadow();
    x.buyer(0, 1000, 0);
    x.buyer(1, 1000, 0);
    int[] due = {10, 5, 0, 0, 0, 0};
    for (int p = 0; p < 6; p++) {
      x.plot(p, 0, 2);
      DUE.is("worth(" + p + ", 0)", x.worth(p, 0), due[p]);
      DUE.is("doubled: worth(" + p + ", 1)", x.worth(p, 1), 2 * due[p]);
      x.plot(p, 0, 0);
      DUE.is("bare: worth(" + p + ", 0)", x.worth(p, 0), 0);
      DUE.is("bare and doubled: worth(" + p + ", 1)", x.worth(p, 1), 0);
    }
  }

  /** The 20 come ahead of the 0: bare plots 3, 4 and 5 steps off. */
  private static void besideLiftsOverNought() {
    int[] due = {15, 10, 5, 0, 0};
    for (int away = 1; away <= 5; away++) {
      CandleMeadow x = new CandleMeadow();
      x.buyer(0, 1000, 0);
      x.buyer(5, 1000, 0);
      x.plot(away + 6, 0, 50);
      DUE.is("candle(" + (away + 6) + ", 1, 0)", x.candle(away + 6, 1, 0), 5);
      DUE.is(away + " steps, beside: worth(" + away + ", 0)", x.worth(away, 0), due[away - 1]);
    }
    CandleMeadow y = new CandleMeadow();
    y.buyer(5, 1000, 0);
    y.plot(9, 0, 50);
    y.candle(9, 1, 0);
    DUE.is("hay 40 of 60, beside, doubled last: worth(3, 0)", y.worth(3, 0), 10);
  }

  private static void greatestWorth() {
    CandleMeadow x = new CandleMeadow();
    x.buyer(50, 100000, 0);
    x.plot(0, 3, 200);
    x.plot(1, 3, 200);
    DUE.is("worth(0, 0)", x.worth(0, 0), 3800);
    x.candle(1, 1, 0);
    DUE.is("beside: worth(0, 0)", x.worth(0, 0), 3840);
  }

  private static void worthOfNoPlotOrBuyer() {
    CandleMeadow x = new CandleMeadow();
    x.buyer(0, 1000, 0);
    int[] noPlot = {-1, 24, LEAST, MOST};
    for (int p : noPlot) {
      DUE.is("worth(" + p + ", 0)", x.worth(p, 0), -1);
    }
    int[] nobody = {-1, 1, 9, 10, LEAST, MOST};
    for (int b : nobody) {
      DUE.is("worth(0, " + b + ")", x.worth(0, b), -1);
    }
    DUE.is("worth(0, 0)", x.worth(0, 0), 0);
    DUE.is("worth(23, 0)", x.worth(23, 0), 0);
  }

  private static void counts(CandleMeadow x, int... due) {
    for (int what = 0; what < 7; what++) {
      DUE.is("count(" + what + ")", x.count(what), due[what]);
    }
  }

  private static void countsAtTheirLeast() {
    CandleMeadow x = new CandleMeadow();
    x.step(1);
    counts(x, 0, 0, 0, 0, 1, 0, 0);
    x.plot(0, 3, 1);
    x.plot(1, 3, 1);
    counts(x, 0, 0, 0, 0, 1, 0, 0);
    x.plot(1, 3, 2);
    DUE.is("hay cut plot by plot: count(5)", x.count(5), 1);
  }

  /** Ten buyers, all plots sold and standing, the last day, the greatest step, and rain on all days. */
  private static void countsAtTheirMost() {
    CandleMeadow x = new CandleMeadow();
    for (int b = 0; b < 10; b++) {
      x.buyer(50, 100000, 0);
    }
    x.step(100);
    for (int p = 0; p < 24; p++) {
      x.plot(p, 3, 200);
      DUE.is("sold before: count(1)", x.count(1), p);
      DUE.is("standing before: count(2)", x.count(2), p);
      DUE.is("candle(" + p + ", 1, 9)", x.candle(p, 1, 9), 100);
    }
    x.day(30);
    for (int d = 0; d <= 30; d++) {
      DUE.is("rain before: count(6)", x.count(6), d);
      x.rain(d, true);
    }
    counts(x, 10, 24, 24, 30, 100, 4560, 31);
    for (int p = 0; p < 24; p++) {
      x.cut(p);
      DUE.is("standing behind it: count(2)", x.count(2), 23 - p);
    }
    counts(x, 10, 24, 0, 30, 100, 4560, 31);
    x.rain(30, true);
    DUE.is("rain twice is rain once: count(6)", x.count(6), 31);
    x.rain(30, false);
    DUE.is("count(6)", x.count(6), 30);
    DUE.is("about(9, 5)", x.about(9, 5), 2400);
    DUE.is("about(9, 4)", x.about(9, 4), 4560);
  }

  private static void countOfOthers() {
    CandleMeadow x = new CandleMeadow();
    int[] none = {-1, 7, 8, LEAST, MOST};
    for (int what : none) {
      DUE.is("count(" + what + ")", x.count(what), -1);
    }
  }
}
