/** The edges of promises 22 to 25: drying and loss up to the last day, tithes, and who pays how far. */
public final class HayEdgesTest {
  private static final Due DUE = new Due();
  private static final int LEAST = Integer.MIN_VALUE;
  private static final int MOST = Integer.MAX_VALUE;

  public static void main(String[] args) {
    notCutYet();
    noPlot();
    threeSunsFromTheNextDayOn();
    rainAheadOfTheCutIsNothing();
    rainBehindTheBarnIsNothing();
    oneLessButNoughtAtLeast();
    aTenthSpoilsCut();
    inTheBarnOnDay30();
    allWeathersOfTheLastDays();
    hayOfNothingDries();
    eachPlotByItself();
    titheIsATenthCut();
    titheOfAllTogether();
    titheOfNobody();
    whatIsPaid();
    asFarAsThePurseGoes();
    trampledLoadsAreTenEach();
    asFarAsTheSuretysPurseGoes();
    suretyPaysItsOwnFirst();
    byNumbers();
    suretiesOfSureties();
    mostOwed();
    DUE.end();
  }

  /** Plot 0 of a kind with so much grass is buyer 0's and cut on a day. */
  private static CandleMeadow cutOn(int day, int kind, int grass) {
    CandleMeadow x = new CandleMeadow();
    x.plot(0, kind, grass);
    x.buyer(0, 1000, 0);
    DUE.is("candle(0, 1, 0)", x.candle(0, 1, 0), 5);
    x.day(day);
    DUE.is("cut(0)", x.cut(0), 0);
    return x;
  }

  private static void hay(String told, CandleMeadow x, int day, int loads) {
    DUE.is(told + ": dry(0)", x.dry(0), day);
    DUE.is(told + ": barn(0)", x.barn(0), loads);
  }

  // ---- promises 22 and 23: dry and barn

  private static void notCutYet() {
    CandleMeadow x = new CandleMeadow();
    hay("bare", x, -3, -3);
    x.plot(0, 0, 50);
    hay("not sold", x, -3, -3);
    x.buyer(0, 100, 0);
    x.candle(0, 1, 0);
    hay("sold", x, -3, -3);
    x.day(30);
    hay("sold, the last day", x, -3, -3);
    x.cut(0);
    hay("cut", x, -4, 0);
    CandleMeadow y = cutOn(0, 0, 50);
    y.candle(1, 1, 0);
    DUE.is("sold and bare: dry(1)", y.dry(1), -3);
    DUE.is("sold and bare: barn(1)", y.barn(1), -3);
  }

  private static void noPlot() {
    CandleMeadow x = cutOn(0, 0, 50);
    int[] none = {-1, 24, LEAST, MOST};
    for (int p : none) {
      DUE.is("dry(" + p + ")", x.dry(p), -1);
      DUE.is("barn(" + p + ")", x.barn(p), -1);
    }
    DUE.is("the last plot: dry(23)", x.dry(23), -3);
    DUE.is("the last plot: barn(23)", x.barn(23), -3);
  }

  private static void threeSunsFromTheNextDayOn() {
    for (int day = 0; day <= 30; day++) {
      hay("cut on " + day, cutOn(day, 0, 50), day <= 27 ? day + 3 : -4, day <= 27 ? 40 : 0);
    }
  }

  private static void rainAheadOfTheCutIsNothing() {
    CandleMeadow x = cutOn(5, 0, 50);
    for (int d = 0; d <= 5; d++) {
      x.rain(d, true);
      hay("rain up to " + d, x, 8, 40);
    }
    x.rain(6, true);
    hay("rain on the next day", x, 9, 36);
  }

  private static void rainBehindTheBarnIsNothing() {
    CandleMeadow x = cutOn(5, 0, 50);
    for (int d = 30; d >= 9; d--) {
      x.rain(d, true);
      hay("rain from " + d + " on", x, 8, 40);
    }
    x.rain(8, true);
    hay("rain from the third day on", x, -4, 0);
    CandleMeadow y = cutOn(5, 0, 50);
    y.rain(8, true);
    hay("rain on the third day alone", y, 10, 36);
  }

  /** "each day of RAIN counts one less (0 at least)". */
  private static void oneLessButNoughtAtLeast() {
    CandleMeadow x = cutOn(0, 0, 12);
    x.rain(1, true);
    hay("0, 1, 2, 3", x, 4, 9);
    x.rain(2, true);
    x.rain(3, true);
    hay("0, 0, 0, 1, 2, 3", x, 6, 9);
    x.rain(5, true);
    hay("0, 0, 0, 1, 0, 1, 2, 3", x, 8, 9);
    x.rain(8, true);
    hay("0, 0, 0, 1, 0, 1, 2, 1, 2, 3", x, 10, 9);
    x.rain(9, true);
    hay("0, 0, 0, 1, 0, 1, 2, 1, 0, 1, 2, 3", x, 12, 9);
    x.rain(10, true);
    hay("0, 0, 0, 1, 0, 1, 2, 1, 0, 0, 1, 2, 3", x, 13, 9);
  }

  /** "spoils a tenth (cut) of what is left": 10 loads lose one, 9 none. */
  private static void aTenthSpoilsCut() {
    int[][] due = {{11, 8, 8}, {12, 9, 9}, {13, 10, 9}, {23, 18, 17}, {24, 19, 18}, {25, 20, 18}, {125, 100, 90}};
    for (int[] d : due) {
      CandleMeadow x = cutOn(0, 0, d[0]);
      hay("no rain", x, 3, d[1]);
      x.rain(1, true);
      hay("a day of rain", x, 4, d[2]);
    }
    CandleMeadow y = cutOn(0, 3, 200);
    int[] left = {171, 154, 139, 126, 114, 103, 93, 84, 76, 69, 63, 57, 52, 47, 43, 39, 36, 33, 30, 27, 25, 23, 21, 19,
        18, 17, 16};
    for (int d = 1; d <= 27; d++) {
      y.rain(d, true);
      hay(d + " days of rain", y, d + 3, left[d - 1]);
    }
    y.rain(28, true);
    hay("28 days of rain", y, -4, 0);
  }

  private static void inTheBarnOnDay30() {
    hay("cut on 27", cutOn(27, 0, 50), 30, 40);
    hay("cut on 28", cutOn(28, 0, 50), -4, 0);
    CandleMeadow x = cutOn(25, 0, 50);
    x.rain(28, true);
    hay("2, 1, 2, 3 on day 30", x, 30, 36);
    x.rain(30, true);
    hay("2, 1, 2, 1", x, -4, 0);
    x.rain(30, false);
    hay("as before", x, 30, 36);
    x.day(30);
    hay("told on the last day", x, 30, 36);
  }

  /** Cut on day 22: all weathers of the eight days behind it. */
  private static void allWeathersOfTheLastDays() {
    for (int weather = 0; weather < 256; weather++) {
      CandleMeadow x = cutOn(22, 3, 200);
      int suns = 0;
      int left = 190;
      int in = -4;
      for (int d = 23; d <= 30; d++) {
        boolean wet = (weather >> d - 23 & 1) == 1;
        x.rain(d, wet);
        if (in == -4) {
          left -= wet ? left / 10 : 0;
          suns = !wet ? suns + 1 : suns > 0 ? suns - 1 : 0;
          in = suns == 3 ? d : -4;
        }
      }
      hay("weather " + weather, x, in, in == -4 ? 0 : left);
      DUE.is("weather " + weather + ": tithe(0)", x.tithe(0), in == -4 ? 0 : left / 10);
    }
  }

  private static void hayOfNothingDries() {
    CandleMeadow x = cutOn(0, 0, 50);
    x.plot(1, 2, 3);
    x.candle(1, 1, 0);
    DUE.is("cut(1)", x.cut(1), 0);
    DUE.is("no hay: dry(1)", x.dry(1), 3);
    DUE.is("no hay: barn(1)", x.barn(1), 0);
    x.rain(1, true);
    DUE.is("no hay: dry(1)", x.dry(1), 4);
    DUE.is("no hay: barn(1)", x.barn(1), 0);
  }

  private static void eachPlotByItself() {
    CandleMeadow x = new CandleMeadow();
    x.buyer(0, 1000, 0);
    for (int p = 0; p < 4; p++) {
      x.plot(p, 0, 50);
      x.candle(p, 1, 0);
    }
    x.cut(0);
    x.day(2);
    x.cut(1);
    x.day(28);
    x.cut(2);
    x.rain(3, true);
    int[] days = {5, 6, -4, -3};
    int[] loads = {36, 36, 0, -3};
    for (int p = 0; p < 4; p++) {
      DUE.is("dry(" + p + ")", x.dry(p), days[p]);
      DUE.is("barn(" + p + ")", x.barn(p), loads[p]);
    }
  }

  // ---- promise 24: tithe

  private static void titheIsATenthCut() {
    int[][] due = {{11, 8, 0}, {12, 9, 0}, {13, 10, 1}, {24, 19, 1}, {25, 20, 2}, {124, 99, 9}, {125, 100, 10}};
    for (int[] d : due) {
      CandleMeadow x = cutOn(0, 0, d[0]);
      DUE.is("barn(0)", x.barn(0), d[1]);
      DUE.is("tithe(0)", x.tithe(0), d[2]);
    }
  }

  /** "a tenth (cut) of what is in THE BARN of all its PLOTS together". */
  private static void titheOfAllTogether() {
    CandleMeadow x = cutOn(0, 0, 7);
    x.buyer(0, 1000, 2);
    x.plot(1, 0, 7);
    x.plot(2, 0, 200);
    x.plot(3, 0, 200);
    x.plot(4, 0, 200);
    x.candle(1, 1, 0);
    x.candle(2, 1, 1);
    x.candle(3, 1, 0);
    x.candle(4, 1, 0);
    DUE.is("5: tithe(0)", x.tithe(0), 0);
    x.cut(1);
    DUE.is("5 and 5: tithe(0)", x.tithe(0), 1);
    x.cut(2);
    DUE.is("the other's is nothing to it: tithe(0)", x.tithe(0), 1);
    DUE.is("160: tithe(1)", x.tithe(1), 16);
    x.day(27);
    x.cut(3);
    DUE.is("170: tithe(0)", x.tithe(0), 17);
    x.day(28);
    x.cut(4);
    DUE.is("what is lost is nothing: tithe(0)", x.tithe(0), 17);
    x.rain(29, true);
    DUE.is("plot 3 is lost, too: tithe(0)", x.tithe(0), 1);
  }

  private static void titheOfNobody() {
    CandleMeadow x = cutOn(0, 0, 50);
    int[] nobody = {-1, 1, 9, 10, LEAST, MOST};
    for (int b : nobody) {
      DUE.is("tithe(" + b + ")", x.tithe(b), -1);
    }
    for (int b = 1; b < 10; b++) {
      x.buyer(0, 0, 0);
    }
    DUE.is("without plots: tithe(9)", x.tithe(9), 0);
    DUE.is("tithe(10)", x.tithe(10), -1);
  }

  // ---- promise 25: pays

  private static void pays(String told, CandleMeadow x, int buyer, int... due) {
    for (int what = 0; what < 4; what++) {
      DUE.is(told + ": pays(" + buyer + ", " + what + ")", x.pays(buyer, what), due[what]);
    }
  }

  private static void whatIsPaid() {
    CandleMeadow x = cutOn(0, 0, 50);
    pays("a debt of 5", x, 0, 5, 5, 0, 0);
    int[] none = {-1, 4, LEAST, MOST};
    for (int what : none) {
      DUE.is("pays(0, " + what + ")", x.pays(0, what), -1);
    }
    int[] nobody = {-1, 1, 10, LEAST, MOST};
    for (int b : nobody) {
      for (int what = 0; what < 4; what++) {
        DUE.is("pays(" + b + ", " + what + ")", x.pays(b, what), -1);
      }
    }
    for (int b = 1; b < 10; b++) {
      x.buyer(0, 70, 0);
      pays("owes nothing", x, b, 0, 0, 0, 0);
    }
    DUE.is("told only: about(0, 1)", x.about(0, 1), 1000);
    DUE.is("told only: about(0, 5)", x.about(0, 5), 5);
  }

  /** So many buyers, each with a purse of 100 and a plot for 60. */
  private static CandleMeadow owing(int buyers) {
    CandleMeadow x = new CandleMeadow();
    x.step(60);
    for (int b = 0; b < buyers; b++) {
      x.buyer(0, 100, b);
      x.plot(b, 3, 100);
    }
    for (int b = 0; b < buyers; b++) {
      DUE.is("candle(" + b + ", 1, " + b + ")", x.candle(b, 1, b), 60);
    }
    return x;
  }

  private static void asFarAsThePurseGoes() {
    CandleMeadow x = owing(1);
    int[] purses = {0, 1, 59, 60, 61, 100000};
    for (int purse : purses) {
      x.purse(0, purse);
      int own = purse < 60 ? purse : 60;
      pays("a purse of " + purse, x, 0, 60, own, 0, 60 - own);
    }
  }

  private static void trampledLoadsAreTenEach() {
    CandleMeadow x = owing(2);
    DUE.is("cut(1)", x.cut(1), 10);
    x.purse(1, 159);
    pays("60 and 100, a purse of 159", x, 1, 160, 159, 0, 1);
    x.purse(1, 160);
    pays("60 and 100, a purse of 160", x, 1, 160, 160, 0, 0);
    pays("whose grass was trampled", x, 0, 60, 60, 0, 0);
    DUE.is("the debt is the bid alone: about(1, 5)", x.about(1, 5), 60);
    DUE.is("cut(0)", x.cut(0), 0);
    pays("the gate is the first", x, 0, 60, 60, 0, 0);
  }

  private static void asFarAsTheSuretysPurseGoes() {
    CandleMeadow x = owing(1);
    x.buyer(0, 0, 0);
    x.purse(0, 20);
    pays("no surety", x, 0, 60, 20, 0, 40);
    x.surety(0, 1);
    int[] purses = {0, 1, 39, 40, 41, 100000};
    for (int purse : purses) {
      x.purse(1, purse);
      int more = purse < 40 ? purse : 40;
      pays("a surety's purse of " + purse, x, 0, 60, 20, more, 40 - more);
      pays("the surety itself", x, 1, 0, 0, 0, 0);
      DUE.is("told only: about(1, 1)", x.about(1, 1), purse);
    }
    x.purse(0, 60);
    pays("nothing is left to pay", x, 0, 60, 60, 0, 0);
    x.purse(0, 59);
    pays("one is left to pay", x, 0, 60, 59, 1, 0);
    x.surety(0, -1);
    pays("none again", x, 0, 60, 59, 0, 1);
  }

  private static void suretyPaysItsOwnFirst() {
    int[][] due = {{59, 0}, {60, 0}, {61, 1}, {100, 40}, {119, 59}, {120, 60}, {121, 60}};
    for (int[] d : due) {
      CandleMeadow x = owing(2);
      x.purse(0, 0);
      x.surety(0, 1);
      x.purse(1, d[0]);
      pays("a surety with 60 to pay and " + d[0], x, 0, 60, 0, d[1], 60 - d[1]);
      pays("itself", x, 1, 60, d[0] < 60 ? 59 : 60, 0, d[0] < 60 ? 1 : 0);
    }
  }

  /** "Then, by numbers, for each that still owes": a surety of three has 100 left. */
  private static void byNumbers() {
    CandleMeadow x = owing(4);
    int[] purses = {10, 0, 30, 160};
    for (int b = 0; b < 4; b++) {
      x.purse(b, purses[b]);
      x.surety(b, b == 3 ? 0 : 3);
    }
    pays("the first", x, 0, 60, 10, 50, 0);
    pays("the second", x, 1, 60, 0, 50, 10);
    pays("the third", x, 2, 60, 30, 0, 30);
    pays("the surety", x, 3, 60, 60, 0, 0);
    x.surety(0, -1);
    pays("the second now first", x, 1, 60, 0, 60, 0);
    pays("the third then", x, 2, 60, 30, 30, 0);
    pays("without one", x, 0, 60, 10, 0, 50);
    x.purse(3, 150);
    pays("ten less", x, 2, 60, 30, 30, 0);
    x.purse(3, 149);
    pays("eleven less", x, 2, 60, 30, 29, 1);
    CandleMeadow y = owing(4);
    int[] others = {160, 10, 0, 30};
    for (int b = 0; b < 4; b++) {
      y.purse(b, others[b]);
      y.surety(b, b == 0 ? 3 : 0);
    }
    pays("the surety ahead of them", y, 0, 60, 60, 0, 0);
    pays("the first behind it", y, 1, 60, 10, 50, 0);
    pays("the second", y, 2, 60, 0, 50, 10);
    pays("the third", y, 3, 60, 30, 0, 30);
  }

  /** A surety doesn't pay for the one whose surety is its own, and two may stand for one another. */
  private static void suretiesOfSureties() {
    CandleMeadow x = owing(3);
    x.purse(0, 0);
    x.purse(1, 60);
    x.purse(2, 1000);
    x.surety(0, 1);
    x.surety(1, 2);
    pays("its surety has nothing left", x, 0, 60, 0, 0, 60);
    x.purse(1, 20);
    pays("its surety owes itself", x, 0, 60, 0, 0, 60);
    pays("and is helped", x, 1, 60, 20, 40, 0);
    CandleMeadow y = owing(2);
    y.surety(0, 1);
    y.surety(1, 0);
    y.purse(0, 30);
    y.purse(1, 75);
    pays("for one another", y, 0, 60, 30, 15, 15);
    pays("for one another", y, 1, 60, 60, 0, 0);
    y.purse(1, 30);
    pays("both too poor", y, 0, 60, 30, 0, 30);
    pays("both too poor", y, 1, 60, 30, 0, 30);
  }

  /** All plots at a step of 100, cut from the far end: the row of 18 to 23 lies free for those that come behind it. */
  private static void mostOwed() {
    CandleMeadow x = new CandleMeadow();
    x.buyer(50, 100000, 0);
    x.step(100);
    for (int p = 0; p < 24; p++) {
      x.plot(p, 3, 200);
      x.candle(p, 1, 0);
    }
    int trampled = 0;
    for (int p = 23; p >= 0; p--) {
      int due = 20 * (p >= 18 ? p % 6 + 3 : Math.min(p % 6, 1) + p / 6);
      DUE.is("cut(" + p + ")", x.cut(p), due);
      trampled += due;
    }
    DUE.is("about(0, 6)", x.about(0, 6), trampled);
    int owed = 2400 + 10 * trampled;
    pays("rich", x, 0, owed, owed, 0, 0);
    x.purse(0, 0);
    pays("poor", x, 0, owed, 0, 0, owed);
    DUE.is("24 times 190: tithe(0)", x.tithe(0), 456);
  }
}
