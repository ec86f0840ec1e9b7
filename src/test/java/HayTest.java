/** Promises 22 to 25: hay that dries or is lost, tithes, and what is paid at Martinmas. */
public final class HayTest {
  private static final Due DUE = new Due();

  public static void main(String[] args) {
    sunAlone();
    rainCounts();
    lastDays();
    refusals();
    tithe();
    ownPurse();
    sureties();
    trampledIsOwed();
    DUE.end();
  }

  /** Plot 0 with 95 loads of hay, cut on a day. */
  private static CandleMeadow cutOn(int day) {
    CandleMeadow x = new CandleMeadow();
    x.plot(0, 3, 100);
    x.buyer(0, 1000, 0);
    x.candle(0, 1, 0);
    x.day(day);
    DUE.is("cut(0)", x.cut(0), 0);
    return x;
  }

  private static void sunAlone() {
    for (int day = 0; day <= 30; day++) {
      CandleMeadow x = cutOn(day);
      DUE.is("cut on " + day + ": dry(0)", x.dry(0), day <= 27 ? day + 3 : -4);
      DUE.is("cut on " + day + ": barn(0)", x.barn(0), day <= 27 ? 95 : 0);
    }
  }

  private static void rainCounts() {
    CandleMeadow x = cutOn(2);
    x.rain(1, true);
    x.rain(2, true);
    DUE.is("rain up to the day of cutting is nothing: dry(0)", x.dry(0), 5);
    DUE.is("barn(0)", x.barn(0), 95);
    x.rain(6, true);
    DUE.is("rain behind the barn is nothing: barn(0)", x.barn(0), 95);
    x.rain(3, true);
    DUE.is("0 at least: dry(0)", x.dry(0), 8);
    DUE.is("95, 86, 78: barn(0)", x.barn(0), 78);
    x.rain(3, false);
    x.rain(6, false);
    x.rain(5, true);
    DUE.is("two suns less one, two more: dry(0)", x.dry(0), 7);
    DUE.is("95, 86: barn(0)", x.barn(0), 86);
    x.rain(7, true);
    DUE.is("dry(0)", x.dry(0), 9);
    DUE.is("barn(0)", x.barn(0), 78);
    DUE.is("told whatever the day: count(3)", x.count(3), 2);
    x.day(30);
    DUE.is("dry(0) on the last day", x.dry(0), 9);
    DUE.is("barn(0) on the last day", x.barn(0), 78);
    CandleMeadow y = new CandleMeadow();
    y.plot(0, 0, 12);
    y.buyer(0, 100, 0);
    y.candle(0, 1, 0);
    y.cut(0);
    y.rain(1, true);
    DUE.is("a tenth of 9 is nothing: barn(0)", y.barn(0), 9);
    DUE.is("dry(0)", y.dry(0), 4);
  }

  private static void lastDays() {
    CandleMeadow x = cutOn(26);
    x.rain(27, true);
    DUE.is("dry on the last day: dry(0)", x.dry(0), 30);
    DUE.is("barn(0)", x.barn(0), 86);
    x.rain(30, true);
    DUE.is("lost: dry(0)", x.dry(0), -4);
    DUE.is("lost: barn(0)", x.barn(0), 0);
    DUE.is("lost: tithe(0)", x.tithe(0), 0);
    CandleMeadow y = cutOn(0);
    for (int d = 0; d <= 30; d++) {
      y.rain(d, true);
    }
    DUE.is("rain for ever: dry(0)", y.dry(0), -4);
    DUE.is("rain for ever: barn(0)", y.barn(0), 0);
  }

  private static void refusals() {
    CandleMeadow x = cutOn(0);
    DUE.is("dry(-1)", x.dry(-1), -1);
    DUE.is("dry(24)", x.dry(24), -1);
    DUE.is("dry(1)", x.dry(1), -3);
    DUE.is("barn(-1)", x.barn(-1), -1);
    DUE.is("barn(24)", x.barn(24), -1);
    DUE.is("barn(1)", x.barn(1), -3);
    x.plot(1, 0, 100);
    x.candle(1, 1, 0);
    DUE.is("sold, not cut: dry(1)", x.dry(1), -3);
    DUE.is("sold, not cut: barn(1)", x.barn(1), -3);
    DUE.is("tithe(-1)", x.tithe(-1), -1);
    DUE.is("tithe(1)", x.tithe(1), -1);
    DUE.is("pays(-1, 0)", x.pays(-1, 0), -1);
    DUE.is("pays(1, 0)", x.pays(1, 0), -1);
    DUE.is("pays(0, -1)", x.pays(0, -1), -1);
    DUE.is("pays(0, 4)", x.pays(0, 4), -1);
  }

  private static void tithe() {
    CandleMeadow x = new CandleMeadow();
    x.buyer(0, 1000, 0);
    x.buyer(0, 1000, 1);
    x.plot(0, 3, 20);
    x.plot(1, 3, 20);
    x.plot(2, 3, 20);
    x.plot(3, 3, 200);
    x.candle(0, 1, 0);
    x.candle(1, 1, 0);
    x.candle(2, 1, 1);
    x.candle(3, 1, 0);
    DUE.is("nothing cut: tithe(0)", x.tithe(0), 0);
    x.cut(0);
    DUE.is("19: tithe(0)", x.tithe(0), 1);
    x.cut(1);
    DUE.is("38 together, not 1 and 1: tithe(0)", x.tithe(0), 3);
    DUE.is("tithe(1)", x.tithe(1), 0);
    x.cut(2);
    DUE.is("tithe(1)", x.tithe(1), 1);
    x.day(28);
    x.cut(3);
    DUE.is("190 are lost: tithe(0)", x.tithe(0), 3);
    DUE.is("told only: about(0, 1)", x.about(0, 1), 1000);
    CandleMeadow y = cutOn(0);
    DUE.is("95: tithe(0)", y.tithe(0), 9);
    y.plot(1, 3, 200);
    y.plot(2, 3, 200);
    y.candle(1, 1, 0);
    y.candle(2, 1, 0);
    y.cut(1);
    y.cut(2);
    DUE.is("95, 190 and 190: tithe(0)", y.tithe(0), 47);
  }

  private static void pays(CandleMeadow x, int buyer, int... due) {
    for (int what = 0; what < 4; what++) {
      DUE.is("pays(" + buyer + ", " + what + ")", x.pays(buyer, what), due[what]);
    }
  }

  private static void ownPurse() {
    CandleMeadow x = new CandleMeadow();
    x.buyer(0, 100, 0);
    pays(x, 0, 0, 0, 0, 0);
    x.plot(0, 0, 100);
    x.step(60);
    x.candle(0, 1, 0);
    pays(x, 0, 60, 60, 0, 0);
    x.purse(0, 60);
    pays(x, 0, 60, 60, 0, 0);
    x.purse(0, 59);
    pays(x, 0, 60, 59, 0, 1);
    x.purse(0, 0);
    pays(x, 0, 60, 0, 0, 60);
    DUE.is("told only: about(0, 5)", x.about(0, 5), 60);
  }

  /** Buyers 0, 1 and 2 owe 60 each, buyer 3 nothing. */
  private static void sureties() {
    CandleMeadow x = new CandleMeadow();
    x.step(60);
    for (int b = 0; b < 4; b++) {
      x.plot(b, 3, 100);
      x.buyer(0, 60, b);
    }
    for (int b = 0; b < 3; b++) {
      DUE.is("candle(" + b + ", 1, " + b + ")", x.candle(b, 1, b), 60);
    }
    x.purse(0, 10);
    x.purse(1, 80);
    x.purse(2, 0);
    x.purse(3, 70);
    pays(x, 0, 60, 10, 0, 50);
    x.surety(0, 1);
    pays(x, 0, 60, 10, 20, 30);
    pays(x, 1, 60, 60, 0, 0);
    x.surety(2, 1);
    pays(x, 0, 60, 10, 20, 30);
    pays(x, 2, 60, 0, 0, 60);
    x.surety(0, 3);
    pays(x, 0, 60, 10, 50, 0);
    pays(x, 2, 60, 0, 20, 40);
    x.surety(2, 3);
    pays(x, 0, 60, 10, 50, 0);
    pays(x, 2, 60, 0, 20, 40);
    x.surety(3, 1);
    pays(x, 3, 0, 0, 0, 0);
    x.surety(1, 3);
    pays(x, 1, 60, 60, 0, 0);
    x.surety(2, 0);
    pays(x, 2, 60, 0, 0, 60);
    DUE.is("told only: about(3, 1)", x.about(3, 1), 70);
    x.surety(2, -1);
    pays(x, 2, 60, 0, 0, 60);
    x.purse(0, 1000);
    x.surety(2, 0);
    x.surety(0, 2);
    pays(x, 0, 60, 60, 0, 0);
    pays(x, 2, 60, 0, 60, 0);
    x.surety(2, -1);
    pays(x, 2, 60, 0, 0, 60);
  }

  private static void trampledIsOwed() {
    CandleMeadow x = new CandleMeadow();
    x.buyer(0, 100, 1);
    x.buyer(0, 15, 0);
    x.plot(0, 0, 70);
    x.plot(1, 0, 50);
    x.candle(0, 1, 1);
    x.candle(1, 1, 0);
    DUE.is("cut(1)", x.cut(1), 7);
    pays(x, 0, 75, 75, 0, 0);
    pays(x, 1, 5, 5, 0, 0);
    x.purse(0, 8);
    x.surety(0, 1);
    pays(x, 0, 75, 8, 10, 57);
  }
}
