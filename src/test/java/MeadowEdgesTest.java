/** The edges of promises 1 to 10 and 26, and of the document's first part: each sentence a test of its own. */
public final class MeadowEdgesTest {
  private static final Due DUE = new Due();
  private static final int LEAST = Integer.MIN_VALUE;
  private static final int MOST = Integer.MAX_VALUE;

  public static void main(String[] args) {
    noGrassAtFirst();
    noBuyersAtFirst();
    sunStepAndDayAtFirst();
    plotsFromNoughtTo23();
    kindsFromNoughtTo3();
    grassFromNoughtTo200();
    eachPlotHasItsOwn();
    soldPlotStaysAsItIs();
    plotThatNobodyBoughtMayChange();
    chances();
    hayIsCutDown();
    cowsFromNoughtTo50();
    purseOfABuyerWhoComes();
    homeIsAPlot();
    tenBuyersAndNoMore();
    refusedBuyerTakesNoNumber();
    purseFromNoughtTo100000();
    purseOfNoBuyer();
    waitsOfEach();
    suretyNoneOrAnother();
    suretyWhoIsNotThereYet();
    stepFrom1To100();
    lookFromNoughtTo7();
    lookWhereNothingIsYet();
    aboutFromNoughtTo7();
    DUE.end();
  }

  // ---- promise 1: "No GRASS, no BUYERS."

  private static void noGrassAtFirst() {
    CandleMeadow x = new CandleMeadow();
    for (int p = 0; p < 24; p++) {
      DUE.is("new: look(" + p + ", 1)", x.look(p, 1), 0);
      DUE.is("new: look(" + p + ", 0)", x.look(p, 0), 0);
      DUE.is("new: cut(" + p + ")", x.cut(p), -3);
      DUE.is("new: dry(" + p + ")", x.dry(p), -3);
      DUE.is("new: plot(" + p + ", 1, 1)", x.plot(p, 1, 1), 0);
    }
  }

  private static void noBuyersAtFirst() {
    CandleMeadow x = new CandleMeadow();
    for (int b = 0; b < 10; b++) {
      DUE.is("new: about(" + b + ", 1)", x.about(b, 1), -1);
      DUE.is("new: purse(" + b + ", 1)", x.purse(b, 1), -1);
      DUE.is("new: waits(" + b + ", true)", x.waits(b, true), -1);
      DUE.is("new: surety(" + b + ", -1)", x.surety(b, -1), -1);
      DUE.is("new: worth(0, " + b + ")", x.worth(0, b), -1);
      DUE.is("new: candle(0, 1, " + b + ")", x.candle(0, 1, b), -1);
      DUE.is("new: wins(0, " + b + ", " + b + ")", x.wins(0, b, b), -1);
      DUE.is("new: tithe(" + b + ")", x.tithe(b), -1);
      DUE.is("new: pays(" + b + ", 0)", x.pays(b, 0), -1);
      DUE.is("new: keep(0, 3, " + b + ")", x.keep(0, 3, b), -1);
    }
    DUE.is("new: count(0)", x.count(0), 0);
    DUE.is("new: buyer(0, 0, 0)", x.buyer(0, 0, 0), 0);
  }

  private static void sunStepAndDayAtFirst() {
    CandleMeadow x = new CandleMeadow();
    for (int d = 0; d <= 30; d++) {
      DUE.is("sun at first: rain(" + d + ", false)", x.rain(d, false), 0);
    }
    DUE.is("the day is 0 at first: day(0)", x.day(0), 0);
    DUE.is("5 at first: step(5)", x.step(5), 5);
    for (int d = 0; d < 8; d++) {
      DUE.is("nothing at first: toss(" + d + ")", x.toss(d), -11);
      DUE.is("nothing at first: copy(" + d + ", 0, " + d + ", 0, 0)", x.copy(d, 0, d, 0, 0), -11);
      DUE.says("nothing at first: element(" + d + ", 0)", Due.element(x, d, 0), "throws.IllegalStateException");
    }
  }

  // ---- promise 2: plots, kinds and grass

  private static void plotsFromNoughtTo23() {
    CandleMeadow x = new CandleMeadow();
    DUE.is("plot(0, 0, 1)", x.plot(0, 0, 1), 0);
    DUE.is("plot(23, 0, 1)", x.plot(23, 0, 1), 0);
    int[] none = {-1, 24, LEAST, MOST};
    for (int p : none) {
      DUE.is("plot(" + p + ", 0, 1)", x.plot(p, 0, 1), -1);
    }
    DUE.is("count(5) of two single loads", x.count(5), 0);
    DUE.is("look(0, 1)", x.look(0, 1), 1);
    DUE.is("look(23, 1)", x.look(23, 1), 1);
  }

  private static void kindsFromNoughtTo3() {
    CandleMeadow x = new CandleMeadow();
    for (int kind = 0; kind <= 3; kind++) {
      DUE.is("plot(9, " + kind + ", 50)", x.plot(9, kind, 50), kind == 0 ? 0 : 50);
      DUE.is("look(9, 0)", x.look(9, 0), kind);
    }
    int[] none = {-1, 4, LEAST, MOST};
    for (int kind : none) {
      DUE.is("plot(9, " + kind + ", 60)", x.plot(9, kind, 60), -1);
      DUE.is("refused: look(9, 0)", x.look(9, 0), 3);
      DUE.is("refused: look(9, 1)", x.look(9, 1), 50);
    }
  }

  private static void grassFromNoughtTo200() {
    CandleMeadow x = new CandleMeadow();
    DUE.is("plot(9, 1, 200)", x.plot(9, 1, 200), 0);
    int[] none = {-1, 201, LEAST, MOST};
    for (int grass : none) {
      DUE.is("plot(9, 2, " + grass + ")", x.plot(9, 2, grass), -1);
      DUE.is("refused: look(9, 0)", x.look(9, 0), 1);
      DUE.is("refused: look(9, 1)", x.look(9, 1), 200);
    }
    DUE.is("the grass before: plot(9, 1, 0)", x.plot(9, 1, 0), 200);
    DUE.is("the grass before: plot(9, 1, 199)", x.plot(9, 1, 199), 0);
    DUE.is("the grass before: plot(9, 1, 199)", x.plot(9, 1, 199), 199);
  }

  private static void eachPlotHasItsOwn() {
    CandleMeadow x = new CandleMeadow();
    for (int p = 0; p < 24; p++) {
      x.plot(p, p % 4, 100 + p);
    }
    for (int p = 0; p < 24; p++) {
      DUE.is("look(" + p + ", 0)", x.look(p, 0), p % 4);
      DUE.is("look(" + p + ", 1)", x.look(p, 1), 100 + p);
      DUE.is("plot(" + p + ", 0, 0)", x.plot(p, 0, 0), 100 + p);
    }
  }

  /** "-3: it is sold": bare, standing or cut, and also where nothing would be otherwise. */
  private static void soldPlotStaysAsItIs() {
    CandleMeadow x = new CandleMeadow();
    x.buyer(0, 1000, 0);
    x.plot(0, 1, 40);
    DUE.is("candle(0, 1, 0)", x.candle(0, 1, 0), 5);
    DUE.is("standing: plot(0, 1, 40)", x.plot(0, 1, 40), -3);
    DUE.is("standing: plot(0, 2, 41)", x.plot(0, 2, 41), -3);
    DUE.is("look(0, 0)", x.look(0, 0), 1);
    DUE.is("look(0, 1)", x.look(0, 1), 40);
    DUE.is("bare: candle(1, 1, 0)", x.candle(1, 1, 0), 5);
    DUE.is("bare: plot(1, 0, 10)", x.plot(1, 0, 10), -3);
    DUE.is("bare: look(1, 1)", x.look(1, 1), 0);
    DUE.is("cut(0)", x.cut(0), 0);
    DUE.is("cut: plot(0, 1, 40)", x.plot(0, 1, 40), -3);
    DUE.is("-1 ahead of -3: plot(0, 4, 40)", x.plot(0, 4, 40), -1);
    DUE.is("-1 ahead of -3: plot(0, 1, 201)", x.plot(0, 1, 201), -1);
    DUE.is("beside them: plot(2, 1, 40)", x.plot(2, 1, 40), 0);
  }

  private static void plotThatNobodyBoughtMayChange() {
    CandleMeadow x = new CandleMeadow();
    x.buyer(0, 4, 0);
    x.plot(0, 1, 40);
    DUE.is("candle(0, 60, 0)", x.candle(0, 60, 0), -4);
    DUE.is("plot(0, 2, 41)", x.plot(0, 2, 41), 40);
    DUE.is("look(0, 0)", x.look(0, 0), 2);
  }

  // ---- "CHANCE: of DRY ones 80; WET ones 30 less than DRY; FLOODED ones half of WET (cut); HIGH ones 15 more"

  private static void chances() {
    int[] due = {80, 50, 25, 95};
    CandleMeadow x = new CandleMeadow();
    for (int kind = 0; kind < 4; kind++) {
      x.plot(23, kind, 0);
      DUE.is("kind " + kind + ": look(23, 2)", x.look(23, 2), due[kind]);
    }
  }

  private static void hayIsCutDown() {
    int[] chances = {80, 50, 25, 95};
    for (int kind = 0; kind < 4; kind++) {
      CandleMeadow x = new CandleMeadow();
      for (int grass = 0; grass <= 200; grass++) {
        x.plot(11, kind, grass);
        int hay = (grass * chances[kind] - grass * chances[kind] % 100) / 100;
        DUE.is("kind " + kind + ", grass " + grass + ": look(11, 3)", x.look(11, 3), hay);
      }
    }
    CandleMeadow y = new CandleMeadow();
    y.plot(0, 2, 3);
    DUE.is("75 of 100 are no load: look(0, 3)", y.look(0, 3), 0);
    y.plot(0, 2, 4);
    DUE.is("100 of 100 are one: look(0, 3)", y.look(0, 3), 1);
    y.plot(0, 3, 200);
    DUE.is("the most: look(0, 3)", y.look(0, 3), 190);
  }

  // ---- promise 3: buyers

  private static void cowsFromNoughtTo50() {
    CandleMeadow x = new CandleMeadow();
    DUE.is("buyer(0, 1, 1)", x.buyer(0, 1, 1), 0);
    DUE.is("buyer(50, 1, 1)", x.buyer(50, 1, 1), 1);
    int[] none = {-1, 51, LEAST, MOST};
    for (int cows : none) {
      DUE.is("buyer(" + cows + ", 1, 1)", x.buyer(cows, 1, 1), -1);
    }
    DUE.is("count(0)", x.count(0), 2);
    DUE.is("12 a cow: about(0, 3)", x.about(0, 3), 0);
    DUE.is("12 a cow: about(1, 3)", x.about(1, 3), 600);
  }

  private static void purseOfABuyerWhoComes() {
    CandleMeadow x = new CandleMeadow();
    DUE.is("buyer(1, 0, 1)", x.buyer(1, 0, 1), 0);
    DUE.is("buyer(1, 100000, 1)", x.buyer(1, 100000, 1), 1);
    int[] none = {-1, 100001, LEAST, MOST};
    for (int purse : none) {
      DUE.is("buyer(1, " + purse + ", 1)", x.buyer(1, purse, 1), -1);
    }
    DUE.is("count(0)", x.count(0), 2);
    DUE.is("about(0, 1)", x.about(0, 1), 0);
    DUE.is("about(1, 1)", x.about(1, 1), 100000);
  }

  private static void homeIsAPlot() {
    CandleMeadow x = new CandleMeadow();
    DUE.is("buyer(1, 1, 0)", x.buyer(1, 1, 0), 0);
    DUE.is("buyer(1, 1, 23)", x.buyer(1, 1, 23), 1);
    int[] none = {-1, 24, LEAST, MOST};
    for (int home : none) {
      DUE.is("buyer(1, 1, " + home + ")", x.buyer(1, 1, home), -1);
    }
    DUE.is("count(0)", x.count(0), 2);
    DUE.is("about(0, 2)", x.about(0, 2), 0);
    DUE.is("about(1, 2)", x.about(1, 2), 23);
  }

  private static void tenBuyersAndNoMore() {
    CandleMeadow x = new CandleMeadow();
    for (int b = 0; b < 10; b++) {
      DUE.is("none yet: about(" + b + ", 0)", x.about(b, 0), -1);
      DUE.is("as they come: buyer(" + (b + 3) + ", ..)", x.buyer(b + 3, b + 100, b + 7), b);
    }
    DUE.is("the eleventh: buyer(0, 0, 0)", x.buyer(0, 0, 0), -2);
    DUE.is("the eleventh again: buyer(50, 100000, 23)", x.buyer(50, 100000, 23), -2);
    DUE.is("-1 ahead of -2: buyer(51, 0, 0)", x.buyer(51, 0, 0), -1);
    DUE.is("-1 ahead of -2: buyer(0, -1, 0)", x.buyer(0, -1, 0), -1);
    DUE.is("-1 ahead of -2: buyer(0, 0, 24)", x.buyer(0, 0, 24), -1);
    for (int b = 0; b < 10; b++) {
      DUE.is("about(" + b + ", 0)", x.about(b, 0), b + 3);
      DUE.is("about(" + b + ", 1)", x.about(b, 1), b + 100);
      DUE.is("about(" + b + ", 2)", x.about(b, 2), b + 7);
    }
    DUE.is("about(10, 0)", x.about(10, 0), -1);
    DUE.is("count(0)", x.count(0), 10);
  }

  private static void refusedBuyerTakesNoNumber() {
    CandleMeadow x = new CandleMeadow();
    DUE.is("buyer(51, 1, 1)", x.buyer(51, 1, 1), -1);
    DUE.is("buyer(7, 8, 9)", x.buyer(7, 8, 9), 0);
    DUE.is("buyer(50, 1, 24)", x.buyer(50, 1, 24), -1);
    DUE.is("buyer(8, 9, 10)", x.buyer(8, 9, 10), 1);
    DUE.is("about(0, 0)", x.about(0, 0), 7);
    DUE.is("about(1, 0)", x.about(1, 0), 8);
  }

  // ---- promise 4: purse

  private static void purseFromNoughtTo100000() {
    CandleMeadow x = new CandleMeadow();
    x.buyer(0, 7, 0);
    x.buyer(0, 8, 0);
    int[] none = {-1, 100001, LEAST, MOST};
    for (int n : none) {
      DUE.is("purse(0, " + n + ")", x.purse(0, n), -1);
      DUE.is("refused: about(0, 1)", x.about(0, 1), 7);
    }
    DUE.is("purse(0, 100000)", x.purse(0, 100000), 7);
    DUE.is("purse(0, 0)", x.purse(0, 0), 100000);
    DUE.is("purse(0, 99999)", x.purse(0, 99999), 0);
    DUE.is("the other's: about(1, 1)", x.about(1, 1), 8);
    x.plot(0, 0, 10);
    x.candle(0, 1, 1);
    DUE.is("less than its debt: purse(1, 4)", x.purse(1, 4), 8);
    DUE.is("the purse, not what is left: purse(1, 3)", x.purse(1, 3), 4);
    DUE.is("the debt stays: about(1, 5)", x.about(1, 5), 5);
  }

  private static void purseOfNoBuyer() {
    CandleMeadow x = new CandleMeadow();
    x.buyer(0, 7, 0);
    int[] none = {-1, 1, 9, 10, LEAST, MOST};
    for (int b : none) {
      DUE.is("purse(" + b + ", 5)", x.purse(b, 5), -1);
    }
    DUE.is("about(0, 1)", x.about(0, 1), 7);
    x.buyer(0, 9, 0);
    DUE.is("there now: purse(1, 5)", x.purse(1, 5), 9);
  }

  // ---- promise 5: waits

  private static void waitsOfEach() {
    CandleMeadow x = new CandleMeadow();
    for (int b = 0; b < 10; b++) {
      x.buyer(0, 0, 0);
      DUE.is("at first not: about(" + b + ", 7)", x.about(b, 7), 0);
      DUE.is("at first not: waits(" + b + ", false)", x.waits(b, false), 0);
      DUE.is("waits(" + b + ", true)", x.waits(b, true), 1);
      DUE.is("waits(" + b + ", true)", x.waits(b, true), 0);
      DUE.is("not there: waits(" + (b + 1) + ", true)", x.waits(b + 1, true), -1);
    }
    DUE.is("waits(4, false)", x.waits(4, false), 1);
    for (int b = 0; b < 10; b++) {
      DUE.is("about(" + b + ", 7)", x.about(b, 7), b == 4 ? 0 : 1);
    }
    int[] none = {-1, 10, LEAST, MOST};
    for (int b : none) {
      DUE.is("waits(" + b + ", true)", x.waits(b, true), -1);
      DUE.is("waits(" + b + ", false)", x.waits(b, false), -1);
    }
  }

  // ---- promise 6: surety

  private static void suretyNoneOrAnother() {
    CandleMeadow x = new CandleMeadow();
    for (int b = 0; b < 10; b++) {
      x.buyer(0, 0, 0);
    }
    DUE.is("none before: surety(9, -1)", x.surety(9, -1), -2);
    DUE.is("none before: surety(9, 0)", x.surety(9, 0), -2);
    DUE.is("0 before: surety(9, 8)", x.surety(9, 8), 0);
    DUE.is("8 before: surety(9, -1)", x.surety(9, -1), 8);
    DUE.is("the last one: surety(0, 9)", x.surety(0, 9), -2);
    DUE.is("one another's: surety(9, 0)", x.surety(9, 0), -2);
    DUE.is("for two: surety(1, 9)", x.surety(1, 9), -2);
    int[] none = {-2, -3, 10, LEAST, MOST, 0};
    for (int other : none) {
      DUE.is("surety(0, " + other + ")", x.surety(0, other), -1);
    }
    for (int b = 0; b < 10; b++) {
      DUE.is("itself: surety(" + b + ", " + b + ")", x.surety(b, b), -1);
    }
    int[] nobody = {-1, 10, LEAST, MOST};
    for (int b : nobody) {
      DUE.is("surety(" + b + ", 1)", x.surety(b, 1), -1);
      DUE.is("surety(" + b + ", -1)", x.surety(b, -1), -1);
    }
    DUE.is("refused, it stays: surety(0, -1)", x.surety(0, -1), 9);
    DUE.is("its own: surety(1, -1)", x.surety(1, -1), 9);
    DUE.is("its own: surety(9, -1)", x.surety(9, -1), 0);
    DUE.is("its own: surety(2, -1)", x.surety(2, -1), -2);
  }

  private static void suretyWhoIsNotThereYet() {
    CandleMeadow x = new CandleMeadow();
    x.buyer(0, 0, 0);
    DUE.is("alone: surety(0, 1)", x.surety(0, 1), -1);
    DUE.is("alone: surety(1, 0)", x.surety(1, 0), -1);
    DUE.is("alone, itself: surety(0, 0)", x.surety(0, 0), -1);
    x.buyer(0, 0, 0);
    DUE.is("there: surety(0, 1)", x.surety(0, 1), -2);
    DUE.is("none: surety(1, -1)", x.surety(1, -1), -2);
  }

  // ---- promise 7: step

  private static void stepFrom1To100() {
    CandleMeadow x = new CandleMeadow();
    int[] none = {0, -1, -5, 101, LEAST, MOST};
    for (int n : none) {
      DUE.is("step(" + n + ")", x.step(n), -1);
      DUE.is("refused: count(4)", x.count(4), 5);
    }
    DUE.is("step(1)", x.step(1), 5);
    DUE.is("step(2)", x.step(2), 1);
    DUE.is("step(100)", x.step(100), 2);
    DUE.is("step(99)", x.step(99), 100);
    DUE.is("count(4)", x.count(4), 99);
  }

  // ---- promises 8 and 9: look and about

  private static void lookFromNoughtTo7() {
    CandleMeadow x = new CandleMeadow();
    x.buyer(0, 100, 0);
    x.plot(0, 3, 40);
    x.candle(0, 1, 0);
    x.day(30);
    int[] due = {3, 40, 95, 38, 0, 5, -2, 1};
    for (int what = 0; what < 8; what++) {
      DUE.is("look(0, " + what + ")", x.look(0, what), due[what]);
    }
    x.cut(0);
    DUE.is("cut on the last day: look(0, 6)", x.look(0, 6), 30);
    DUE.is("cut: look(0, 7)", x.look(0, 7), 0);
    int[] none = {-1, 8, LEAST, MOST};
    for (int n : none) {
      DUE.is("look(0, " + n + ")", x.look(0, n), -1);
      DUE.is("look(23, " + n + ")", x.look(23, n), -1);
    }
    int[] noPlot = {-1, 24, LEAST, MOST};
    for (int p : noPlot) {
      for (int what = 0; what < 8; what++) {
        DUE.is("look(" + p + ", " + what + ")", x.look(p, what), -1);
      }
    }
    for (int what = 0; what < 8; what++) {
      DUE.is("the last plot: look(23, " + what + ")", x.look(23, what), new int[] {0, 0, 80, 0, -2, -2, -2, 0}[what]);
    }
  }

  /** "whose it is (-2), for how much (-2), the day on which it was CUT (-2)": each until it is so. */
  private static void lookWhereNothingIsYet() {
    CandleMeadow x = new CandleMeadow();
    x.buyer(0, 100, 0);
    x.plot(0, 0, 40);
    DUE.is("not sold: look(0, 4)", x.look(0, 4), -2);
    DUE.is("not sold: look(0, 5)", x.look(0, 5), -2);
    DUE.is("not sold: look(0, 6)", x.look(0, 6), -2);
    x.candle(0, 1, 0);
    DUE.is("not cut: look(0, 6)", x.look(0, 6), -2);
    x.cut(0);
    DUE.is("cut on the first day: look(0, 6)", x.look(0, 6), 0);
    x.day(5);
    DUE.is("later: look(0, 6)", x.look(0, 6), 0);
    DUE.is("still sold: look(0, 4)", x.look(0, 4), 0);
    DUE.is("still sold: look(0, 5)", x.look(0, 5), 5);
  }

  private static void aboutFromNoughtTo7() {
    CandleMeadow x = new CandleMeadow();
    for (int b = 0; b < 10; b++) {
      x.buyer(50, 100000, 23);
    }
    int[] due = {50, 100000, 23, 600, 0, 0, 0, 0};
    for (int what = 0; what < 8; what++) {
      DUE.is("about(9, " + what + ")", x.about(9, what), due[what]);
      DUE.is("about(10, " + what + ")", x.about(10, what), -1);
      DUE.is("about(-1, " + what + ")", x.about(-1, what), -1);
    }
    int[] none = {-1, 8, LEAST, MOST};
    for (int n : none) {
      DUE.is("about(0, " + n + ")", x.about(0, n), -1);
      DUE.is("about(" + (n == 8 ? 10 : n) + ", 0)", x.about(n == 8 ? 10 : n, 0), -1);
    }
  }
}
