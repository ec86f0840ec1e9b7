/** Promises 11 to 15: the candle, its winners, the lots beside it and the ring. */
public final class SaleTest {
  private static final Due DUE = new Due();

  public static void main(String[] args) {
    turns();
    limits();
    waiting();
    candleRefusals();
    wins();
    lots();
    ring();
    tenBuyers();
    DUE.end();
  }

  /** Worth of plot 0 is 800 to each. */
  private static CandleMeadow three() {
    CandleMeadow x = new CandleMeadow();
    x.plot(0, 0, 100);
    for (int b = 0; b < 3; b++) {
      x.buyer(0, 1000, 0);
    }
    return x;
  }

  private static void turns() {
    for (int breaths = 1; breaths <= 60; breaths++) {
      for (int first = 0; first < 3; first++) {
        CandleMeadow x = three();
        String call = "candle(0, " + breaths + ", " + first + ")";
        DUE.is(call, x.candle(0, breaths, first), 5L * breaths);
        DUE.is(call + ": look(0, 4)", x.look(0, 4), (first + breaths - 1) % 3);
        DUE.is(call + ": look(0, 5)", x.look(0, 5), 5L * breaths);
        DUE.is(call + ": about", x.about((first + breaths - 1) % 3, 5), 5L * breaths);
      }
    }
  }

  private static void limits() {
    CandleMeadow x = new CandleMeadow();
    x.plot(0, 0, 10);
    x.buyer(0, 1000, 0);
    DUE.is("alone it bids once: candle(0, 60, 0)", x.candle(0, 60, 0), 5);

    CandleMeadow y = new CandleMeadow();
    y.plot(0, 0, 5);
    y.buyer(0, 1000, 0);
    y.buyer(0, 1000, 0);
    y.step(10);
    DUE.is("up to worth: candle(0, 60, 0)", y.candle(0, 60, 0), 40);
    DUE.is("look(0, 4)", y.look(0, 4), 1);

    CandleMeadow z = new CandleMeadow();
    z.plot(0, 0, 50);
    z.plot(1, 0, 50);
    z.buyer(0, 30, 0);
    z.buyer(0, 34, 0);
    z.step(10);
    DUE.is("up to the purse: candle(0, 60, 0)", z.candle(0, 60, 0), 30);
    DUE.is("look(0, 4)", z.look(0, 4), 0);
    DUE.is("nothing left of 30: candle(1, 60, 0)", z.candle(1, 60, 0), 10);
    DUE.is("look(1, 4)", z.look(1, 4), 1);
    z.purse(0, 25);
    z.plot(2, 0, 50);
    DUE.is("less than its debt: candle(2, 1, 0)", z.candle(2, 1, 0), -4);
    DUE.is("look(2, 4)", z.look(2, 4), -2);
    DUE.is("24 left of 34: candle(2, 60, 0)", z.candle(2, 60, 0), 10);

    CandleMeadow w = new CandleMeadow();
    w.plot(1, 0, 0);
    w.buyer(0, 1000, 0);
    DUE.is("worth nothing: candle(1, 60, 0)", w.candle(1, 60, 0), -4);
    w.plot(0, 0, 2);
    w.step(11);
    DUE.is("worth below the step: candle(0, 60, 0)", w.candle(0, 60, 0), -4);
    w.step(10);
    DUE.is("worth is the step: candle(0, 60, 0)", w.candle(0, 60, 0), 10);
    DUE.is("bare, but beside: candle(1, 60, 0)", w.candle(1, 60, 0), 10);
    DUE.is("bare: look(1, 7)", w.look(1, 7), 0);
    DUE.is("bare: look(1, 4)", w.look(1, 4), 0);
  }

  private static void waiting() {
    CandleMeadow x = three();
    x.waits(0, true);
    x.waits(1, true);
    x.waits(2, true);
    DUE.is("60 breaths, bids in the last 9: candle(0, 60, 0)", x.candle(0, 60, 0), 45);
    CandleMeadow y = three();
    y.waits(0, true);
    DUE.is("breath 0 of 9: candle(0, 9, 0)", y.candle(0, 9, 0), 45);
    CandleMeadow z = three();
    z.waits(0, true);
    DUE.is("breath 0 of 10 is too early: candle(0, 10, 0)", z.candle(0, 10, 0), 45);
    DUE.is("look(0, 4)", z.look(0, 4), 0);
  }

  private static void candleRefusals() {
    CandleMeadow x = new CandleMeadow();
    DUE.is("nobody there: candle(0, 5, 0)", x.candle(0, 5, 0), -1);
    x.plot(0, 0, 10);
    x.buyer(0, 100, 0);
    int[][] wrong = {{-1, 5, 0}, {24, 5, 0}, {0, 0, 0}, {0, 61, 0}, {0, -1, 0}, {0, 5, -1}, {0, 5, 1},
        {0, Integer.MAX_VALUE, 0}, {0, 5, Integer.MAX_VALUE}, {0, 5, Integer.MIN_VALUE}};
    for (int[] w : wrong) {
      DUE.is("candle(" + w[0] + ", " + w[1] + ", " + w[2] + ")", x.candle(w[0], w[1], w[2]), -1);
    }
    DUE.is("look(0, 4)", x.look(0, 4), -2);
    DUE.is("candle(0, 60, 0)", x.candle(0, 60, 0), 5);
    DUE.is("sold: candle(0, 60, 0)", x.candle(0, 60, 0), -3);
    DUE.is("sold and wrong: candle(0, 61, 0)", x.candle(0, 61, 0), -1);
    DUE.is("about(0, 5)", x.about(0, 5), 5);
  }

  private static void wins() {
    CandleMeadow alone = new CandleMeadow();
    alone.plot(0, 0, 10);
    alone.buyer(0, 100, 0);
    DUE.is("all of 1 .. 60: wins(0, 0, 0)", alone.wins(0, 0, 0), 60);
    CandleMeadow x = three();
    DUE.is("wins(0, 0, 0)", x.wins(0, 0, 0), 20);
    DUE.is("wins(0, 0, 1)", x.wins(0, 0, 1), 20);
    DUE.is("wins(0, 2, 2)", x.wins(0, 2, 2), 20);
    x.purse(1, 7);
    DUE.is("breath 1 alone: wins(0, 0, 1)", x.wins(0, 0, 1), 0);
    DUE.is("first of all: wins(0, 1, 1)", x.wins(0, 1, 1), 1);
    DUE.is("nothing is sold: look(0, 4)", x.look(0, 4), -2);
    DUE.is("about(1, 5)", x.about(1, 5), 0);
    DUE.is("ring()", x.ring(), 0);
    int[][] wrong = {{-1, 0, 0}, {24, 0, 0}, {0, -1, 0}, {0, 3, 0}, {0, 0, -1}, {0, 0, 3}};
    for (int[] w : wrong) {
      DUE.is("wins(" + w[0] + ", " + w[1] + ", " + w[2] + ")", x.wins(w[0], w[1], w[2]), -1);
    }
    x.candle(0, 1, 0);
    DUE.is("sold: wins(0, 0, 0)", x.wins(0, 0, 0), -3);
    DUE.is("sold and wrong: wins(0, 0, 3)", x.wins(0, 0, 3), -1);
    DUE.is("nobody bids: wins(5, 0, 0)", x.wins(5, 0, 0), 0);
  }

  private static void lots() {
    CandleMeadow x = new CandleMeadow();
    x.plot(0, 0, 50);
    DUE.is("nobody there: lots(0)", x.lots(0), -4);
    DUE.is("nobody there: lotter(0)", x.lotter(0), -4);
    x.buyer(0, 4, 0);
    DUE.is("below the step: lots(0)", x.lots(0), -4);
    DUE.is("below the step: lotter(0)", x.lotter(0), -4);
    x.buyer(0, 5, 0);
    DUE.is("at the step, alone: lots(0)", x.lots(0), 5);
    DUE.is("lotter(0)", x.lotter(0), 1);
    x.buyer(0, 1000, 0);
    DUE.is("one more than 5: lots(0)", x.lots(0), 10);
    DUE.is("lotter(0)", x.lotter(0), 2);
    x.purse(0, 398);
    DUE.is("its own cap at most: lots(0)", x.lots(0), 400);
    x.purse(0, 100000);
    DUE.is("like caps: lots(0)", x.lots(0), 400);
    DUE.is("like caps, the first: lotter(0)", x.lotter(0), 0);
    x.purse(0, 100);
    x.step(100);
    DUE.is("lots(0)", x.lots(0), 200);
    x.purse(0, 99);
    DUE.is("a cap below the step is no other: lots(0)", x.lots(0), 100);
    DUE.is("told only: look(0, 4)", x.look(0, 4), -2);
    DUE.is("lots(-1)", x.lots(-1), -1);
    DUE.is("lots(24)", x.lots(24), -1);
    DUE.is("lotter(-1)", x.lotter(-1), -1);
    DUE.is("lotter(24)", x.lotter(24), -1);
    x.candle(0, 1, 2);
    DUE.is("sold: lots(0)", x.lots(0), -3);
    DUE.is("sold: lotter(0)", x.lotter(0), -3);
    x.plot(1, 0, 50);
    x.purse(2, 250);
    DUE.is("what is left counts: lots(1)", x.lots(1), 100);
    DUE.is("lotter(1)", x.lotter(1), 2);
    x.purse(2, 199);
    DUE.is("99 are left: lots(1)", x.lots(1), -4);
  }

  private static void ring() {
    CandleMeadow x = new CandleMeadow();
    x.plot(0, 0, 50);
    x.plot(1, 0, 50);
    x.plot(2, 0, 50);
    x.buyer(0, 20, 0);
    x.buyer(0, 1000, 0);
    DUE.is("candle(0, 1, 1)", x.candle(0, 1, 1), 5);
    DUE.is("5 for 25: ring()", x.ring(), -20);
    x.step(50);
    DUE.is("candle(1, 2, 0)", x.candle(1, 2, 0), 50);
    DUE.is("50 for 50: ring()", x.ring(), -20);
    DUE.is("nobody bids: candle(2, 1, 0)", x.candle(2, 1, 0), -4);
    DUE.is("ring()", x.ring(), -20);
    x.purse(0, 100000);
    x.purse(1, 100000);
    x.step(1);
    x.plot(8, 0, 4);
    DUE.is("15 for 15: candle(8, 60, 0)", x.candle(8, 60, 0), 15);
    DUE.is("ring()", x.ring(), -20);
    shortSteps();
  }

  private static void tenBuyers() {
    CandleMeadow x = new CandleMeadow();
    x.plot(0, 0, 100);
    for (int b = 0; b < 10; b++) {
      x.buyer(0, 100 + b, 0);
      x.waits(b, true);
    }
    DUE.is("lots(0)", x.lots(0), 109);
    DUE.is("lotter(0)", x.lotter(0), 9);
    DUE.is("wins(0, 9, 9)", x.wins(0, 9, 9), 15);
    DUE.is("the last 30 of 60, as far as 105: candle(0, 60, 9)", x.candle(0, 60, 9), 105);
    DUE.is("breath 50: look(0, 4)", x.look(0, 4), 9);
    DUE.is("ring()", x.ring(), -4);
    DUE.is("pays(9, 0)", x.pays(9, 0), 105);
    DUE.is("pays(8, 1)", x.pays(8, 1), 0);
  }

  /** The steps of a candle can end short of what lots bring from the same purses. */
  private static void shortSteps() {
    CandleMeadow x = new CandleMeadow();
    x.plot(0, 0, 50);
    x.buyer(0, 31, 0);
    x.buyer(0, 19, 0);
    x.step(10);
    DUE.is("lots(0)", x.lots(0), 29);
    DUE.is("candle(0, 60, 1)", x.candle(0, 60, 1), 20);
    DUE.is("ring()", x.ring(), -9);
    CandleMeadow y = new CandleMeadow();
    y.plot(0, 0, 50);
    y.buyer(0, 45, 0);
    y.buyer(0, 30, 0);
    y.step(10);
    DUE.is("lots(0)", y.lots(0), 40);
    DUE.is("candle(0, 60, 0)", y.candle(0, 60, 0), 30);
    DUE.is("ring()", y.ring(), -10);
  }
}
