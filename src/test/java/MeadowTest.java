/** Promises 1 to 10 and 26: a new object, plots, buyers, worth and the counts. */
public final class MeadowTest {
  private static final Due DUE = new Due();

  public static void main(String[] args) {
    newObject();
    plot();
    buyer();
    purse();
    waits();
    surety();
    step();
    look();
    about();
    worth();
    count();
    DUE.end();
  }

  private static void newObject() {
    CandleMeadow x = new CandleMeadow();
    int[] plain = {0, 0, 80, 0, -2, -2, -2, 0};
    for (int p = 0; p < 24; p++) {
      for (int w = 0; w < 8; w++) {
        DUE.is("new: look(" + p + ", " + w + ")", x.look(p, w), plain[w]);
      }
      DUE.is("new: way(" + p + ")", x.way(p), 0);
    }
    int[] counts = {0, 0, 0, 0, 5, 0, 0};
    for (int w = 0; w < 7; w++) {
      DUE.is("new: count(" + w + ")", x.count(w), counts[w]);
    }
    DUE.is("new: about(0, 0)", x.about(0, 0), -1);
    DUE.is("new: ring()", x.ring(), 0);
    DUE.is("new: best()", x.best(), 0);
    DUE.is("new: order(0)", x.order(0), -3);
    DUE.is("new: lots(0)", x.lots(0), -4);
    DUE.is("new: lotter(23)", x.lotter(23), -4);
    for (int d = 0; d < 8; d++) {
      DUE.is("new: weight(" + d + ")", x.weight(d), -11);
    }
  }

  private static void plot() {
    CandleMeadow x = new CandleMeadow();
    DUE.is("plot(23, 3, 200)", x.plot(23, 3, 200), 0);
    DUE.is("plot(23, 2, 0)", x.plot(23, 2, 0), 200);
    DUE.is("plot(23, 1, 7)", x.plot(23, 1, 7), 0);
    int[][] wrong = {{-1, 0, 0}, {24, 0, 0}, {23, -1, 0}, {23, 4, 0}, {23, 0, -1}, {23, 0, 201},
        {Integer.MIN_VALUE, 0, 0}, {Integer.MAX_VALUE, 0, 0}};
    for (int[] w : wrong) {
      DUE.is("plot(" + w[0] + ", " + w[1] + ", " + w[2] + ")", x.plot(w[0], w[1], w[2]), -1);
    }
    DUE.is("look(23, 0)", x.look(23, 0), 1);
    DUE.is("look(23, 1)", x.look(23, 1), 7);
    x.plot(0, 0, 10);
    x.buyer(0, 100, 0);
    DUE.is("candle(0, 1, 0)", x.candle(0, 1, 0), 5);
    DUE.is("sold: plot(0, 1, 20)", x.plot(0, 1, 20), -3);
    DUE.is("sold and wrong: plot(0, 4, 20)", x.plot(0, 4, 20), -1);
    DUE.is("look(0, 0)", x.look(0, 0), 0);
    DUE.is("look(0, 1)", x.look(0, 1), 10);
  }

  private static void buyer() {
    CandleMeadow x = new CandleMeadow();
    int[][] wrong = {{-1, 0, 0}, {51, 0, 0}, {0, -1, 0}, {0, 100001, 0}, {0, 0, -1}, {0, 0, 24}};
    for (int[] w : wrong) {
      DUE.is("buyer(" + w[0] + ", " + w[1] + ", " + w[2] + ")", x.buyer(w[0], w[1], w[2]), -1);
    }
    DUE.is("count(0)", x.count(0), 0);
    for (int b = 0; b < 10; b++) {
      DUE.is("buyer " + b, x.buyer(b * 5, b * 10000, b * 2), b);
    }
    DUE.is("buyer(50, 100000, 23)", x.buyer(50, 100000, 23), -2);
    DUE.is("full and wrong: buyer(51, 0, 0)", x.buyer(51, 0, 0), -1);
    DUE.is("count(0)", x.count(0), 10);
    DUE.is("about(9, 0)", x.about(9, 0), 45);
    DUE.is("about(9, 1)", x.about(9, 1), 90000);
    DUE.is("about(9, 2)", x.about(9, 2), 18);
    DUE.is("about(10, 0)", x.about(10, 0), -1);
    CandleMeadow y = new CandleMeadow();
    DUE.is("the most: buyer(50, 100000, 23)", y.buyer(50, 100000, 23), 0);
    DUE.is("the least: buyer(0, 0, 0)", y.buyer(0, 0, 0), 1);
  }

  private static void purse() {
    CandleMeadow x = new CandleMeadow();
    DUE.is("purse(0, 1)", x.purse(0, 1), -1);
    x.buyer(1, 77, 0);
    DUE.is("purse(0, 100000)", x.purse(0, 100000), 77);
    DUE.is("purse(0, 100001)", x.purse(0, 100001), -1);
    DUE.is("purse(0, -1)", x.purse(0, -1), -1);
    DUE.is("purse(-1, 5)", x.purse(-1, 5), -1);
    DUE.is("purse(1, 5)", x.purse(1, 5), -1);
    DUE.is("purse(0, 0)", x.purse(0, 0), 100000);
    DUE.is("about(0, 1)", x.about(0, 1), 0);
  }

  private static void waits() {
    CandleMeadow x = new CandleMeadow();
    DUE.is("waits(0, true)", x.waits(0, true), -1);
    x.buyer(0, 0, 0);
    DUE.is("waits(0, false)", x.waits(0, false), 0);
    DUE.is("waits(0, true)", x.waits(0, true), 1);
    DUE.is("waits(0, true) again", x.waits(0, true), 0);
    DUE.is("about(0, 7)", x.about(0, 7), 1);
    DUE.is("waits(-1, true)", x.waits(-1, true), -1);
    DUE.is("waits(1, true)", x.waits(1, true), -1);
    DUE.is("waits(0, false)", x.waits(0, false), 1);
    DUE.is("about(0, 7)", x.about(0, 7), 0);
  }

  private static void surety() {
    CandleMeadow x = new CandleMeadow();
    DUE.is("surety(0, -1)", x.surety(0, -1), -1);
    x.buyer(0, 0, 0);
    x.buyer(0, 0, 0);
    DUE.is("surety(0, -1)", x.surety(0, -1), -2);
    DUE.is("surety(0, 1)", x.surety(0, 1), -2);
    DUE.is("surety(1, 0)", x.surety(1, 0), -2);
    DUE.is("itself: surety(0, 0)", x.surety(0, 0), -1);
    DUE.is("surety(0, 2)", x.surety(0, 2), -1);
    DUE.is("surety(0, -2)", x.surety(0, -2), -1);
    DUE.is("surety(-1, 0)", x.surety(-1, 0), -1);
    DUE.is("surety(-1, -1)", x.surety(-1, -1), -1);
    DUE.is("surety(2, 0)", x.surety(2, 0), -1);
    DUE.is("surety(0, 1)", x.surety(0, 1), 1);
    DUE.is("surety(0, -1)", x.surety(0, -1), 1);
    DUE.is("surety(0, -1)", x.surety(0, -1), -2);
    DUE.is("surety(1, -1)", x.surety(1, -1), 0);
  }

  private static void step() {
    CandleMeadow x = new CandleMeadow();
    DUE.is("step(1)", x.step(1), 5);
    DUE.is("step(100)", x.step(100), 1);
    DUE.is("step(0)", x.step(0), -1);
    DUE.is("step(101)", x.step(101), -1);
    DUE.is("step(-5)", x.step(-5), -1);
    DUE.is("step(9)", x.step(9), 100);
    DUE.is("count(4)", x.count(4), 9);
  }

  private static void look() {
    CandleMeadow x = new CandleMeadow();
    int[] chances = {80, 50, 25, 95};
    int[] hays = {159, 99, 49, 189};
    for (int kind = 0; kind < 4; kind++) {
      x.plot(kind, kind, 199);
      DUE.is("look(" + kind + ", 0)", x.look(kind, 0), kind);
      DUE.is("look(" + kind + ", 1)", x.look(kind, 1), 199);
      DUE.is("look(" + kind + ", 2)", x.look(kind, 2), chances[kind]);
      DUE.is("look(" + kind + ", 3)", x.look(kind, 3), hays[kind]);
      DUE.is("not sold: look(" + kind + ", 7)", x.look(kind, 7), 0);
    }
    DUE.is("look(0, -1)", x.look(0, -1), -1);
    DUE.is("look(0, 8)", x.look(0, 8), -1);
    DUE.is("look(-1, 0)", x.look(-1, 0), -1);
    DUE.is("look(24, 0)", x.look(24, 0), -1);
    x.buyer(0, 1000, 3);
    x.day(4);
    x.candle(3, 1, 0);
    DUE.is("look(3, 4)", x.look(3, 4), 0);
    DUE.is("look(3, 5)", x.look(3, 5), 5);
    DUE.is("look(3, 6)", x.look(3, 6), -2);
    DUE.is("look(3, 7)", x.look(3, 7), 1);
    x.cut(3);
    DUE.is("look(3, 1)", x.look(3, 1), 199);
    DUE.is("look(3, 3)", x.look(3, 3), 189);
    DUE.is("look(3, 6)", x.look(3, 6), 4);
    DUE.is("look(3, 7)", x.look(3, 7), 0);
  }

  private static void about() {
    CandleMeadow x = new CandleMeadow();
    x.plot(0, 0, 100);
    x.plot(2, 3, 100);
    x.buyer(7, 5000, 14);
    int[] first = {7, 5000, 14, 84, 0, 0, 0, 0};
    for (int w = 0; w < 8; w++) {
      DUE.is("about(0, " + w + ")", x.about(0, w), first[w]);
    }
    x.waits(0, true);
    x.candle(0, 1, 0);
    x.candle(2, 1, 0);
    x.cut(2);
    int[] then = {7, 5000, 14, 84, 175, 10, 10, 1};
    for (int w = 0; w < 8; w++) {
      DUE.is("then about(0, " + w + ")", x.about(0, w), then[w]);
    }
    DUE.is("about(0, 8)", x.about(0, 8), -1);
    DUE.is("about(0, -1)", x.about(0, -1), -1);
    DUE.is("about(1, 0)", x.about(1, 0), -1);
    DUE.is("about(-1, 0)", x.about(-1, 0), -1);
  }

  private static void worth() {
    CandleMeadow x = new CandleMeadow();
    x.plot(0, 0, 50);
    x.plot(23, 0, 1);
    x.plot(7, 1, 20);
    x.buyer(0, 1000, 23);
    x.buyer(4, 1000, 0);
    DUE.is("far: worth(0, 0)", x.worth(0, 0), 360);
    DUE.is("at home: worth(0, 1)", x.worth(0, 1), 800);
    DUE.is("below 0: worth(1, 0)", x.worth(1, 0), 0);
    DUE.is("below 0 and doubled: worth(1, 1)", x.worth(1, 1), 0);
    DUE.is("a load that is no hay: worth(23, 0)", x.worth(23, 0), 0);
    DUE.is("worth(7, 1)", x.worth(7, 1), 180);
    x.candle(0, 1, 1);
    DUE.is("need just below: about(1, 3)", x.about(1, 3), 48);
    DUE.is("hay 40 below need 48: worth(7, 1)", x.worth(7, 1), 180);
    DUE.is("beside, once: worth(1, 1)", x.worth(1, 1), 30);
    DUE.is("beside: worth(6, 1)", x.worth(6, 1), 30);
    DUE.is("itself: worth(0, 1)", x.worth(0, 1), 800);
    x.plot(1, 3, 9);
    x.candle(1, 1, 1);
    DUE.is("hay is need: about(1, 4)", x.about(1, 4), 48);
    DUE.is("two beside count once: worth(6, 1)", x.worth(6, 1), 15);
    DUE.is("one beside below: worth(7, 1)", x.worth(7, 1), 110);
    DUE.is("row's end is no neighbour: worth(5, 1)", x.worth(5, 1), 0);
    x.buyer(0, 1000, 9);
    int[] away = {4, 3, 2, 1, 2, 3, 3, 2, 1, 0, 1, 2, 4, 3, 2, 1, 2, 3, 5, 4, 3, 2, 3, 4};
    for (int p = 2; p < 23; p++) {
      x.plot(p, 0, 50);
      DUE.is("from 9: worth(" + p + ", 2)", x.worth(p, 2), 400 - 5 * away[p]);
    }
    DUE.is("worth(24, 0)", x.worth(24, 0), -1);
    DUE.is("worth(-1, 0)", x.worth(-1, 0), -1);
    DUE.is("worth(0, 3)", x.worth(0, 3), -1);
    DUE.is("worth(0, -1)", x.worth(0, -1), -1);
    edges();
  }

  /** Plots 5 and 6 follow in number, but have no side in common. */
  private static void edges() {
    CandleMeadow x = new CandleMeadow();
    x.plot(5, 0, 10);
    x.buyer(0, 1000, 6);
    x.candle(5, 1, 0);
    DUE.is("look(5, 4)", x.look(5, 4), 0);
    DUE.is("across the edge: worth(6, 0)", x.worth(6, 0), 0);
    DUE.is("west: worth(4, 0)", x.worth(4, 0), 0);
    x.plot(4, 0, 10);
    x.plot(11, 0, 10);
    DUE.is("west: worth(4, 0)", x.worth(4, 0), 75);
    DUE.is("north: worth(11, 0)", x.worth(11, 0), 75);
  }

  private static void count() {
    CandleMeadow x = new CandleMeadow();
    x.plot(0, 0, 10);
    x.plot(1, 1, 11);
    x.plot(2, 2, 3);
    x.buyer(0, 1000, 0);
    x.buyer(0, 1000, 0);
    x.candle(0, 1, 0);
    x.candle(1, 1, 1);
    x.day(3);
    x.rain(0, true);
    x.rain(30, true);
    x.step(6);
    int[] due = {2, 2, 2, 3, 6, 13, 2};
    for (int w = 0; w < 7; w++) {
      DUE.is("count(" + w + ")", x.count(w), due[w]);
    }
    x.cut(0);
    DUE.is("cut: count(1)", x.count(1), 2);
    DUE.is("cut: count(2)", x.count(2), 1);
    DUE.is("cut: count(5)", x.count(5), 13);
    DUE.is("count(7)", x.count(7), -1);
    DUE.is("count(-1)", x.count(-1), -1);
  }
}
