import java.util.Random;

/** All promises: many runs of calls, drawn from a written seed, with the answers of the plain model beside them. */
public final class ModelTest {
  private static final Due DUE = new Due();
  private static final int RUNS = 2000;
  /** An object answers for no more calls than these. */
  private static final int CALLS = 512;
  private static final int QUESTIONS = 252;
  private static final int PARTS = 5;

  private final Random random;
  private final CandleMeadow x = new CandleMeadow();
  private final Model m = new Model();
  private final String run;

  private ModelTest(int seed) {
    random = new Random(seed);
    run = "run " + seed + ": ";
  }

  public static void main(String[] args) {
    for (int seed = 0; seed < RUNS; seed++) {
      new ModelTest(seed).play(seed);
    }
    DUE.end();
  }

  private void play(int seed) {
    boolean quiet = seed % 2 == 0;
    int part = seed % PARTS;
    int drawn = part == 0 ? CALLS : CALLS - QUESTIONS;
    for (int c = 0; c < drawn; c++) {
      int kind = random.nextInt(100);
      if (quiet && c < 40) {
        settle(c);
      } else if (kind < 30) {
        change();
      } else if (kind < 75) {
        ask();
      } else {
        shelve();
      }
    }
    compare(part);
  }

  /** Mostly a number of the range, now and then one beside it or far out. */
  private int near(int low, int high) {
    int draw = random.nextInt(40);
    if (draw == 0) {
      return low - 1;
    }
    if (draw == 1) {
      return high + 1;
    }
    if (draw == 2) {
      int[] far = {Integer.MIN_VALUE, Integer.MAX_VALUE, -2, 1000000};
      return far[random.nextInt(far.length)];
    }
    if (draw < 6) {
      return random.nextBoolean() ? low : high;
    }
    return low + random.nextInt(high - low + 1);
  }

  private int man() {
    return near(0, Math.max(m.count(0) - 1, 0));
  }

  private int money() {
    int[] most = {20, 200, 2000, 100000};
    return near(0, most[random.nextInt(most.length)]);
  }

  private void is(String call, int got, int want) {
    DUE.is(run + call, got, want);
  }

  private String told(String name, int... values) {
    StringBuilder text = new StringBuilder(name).append('(');
    for (int i = 0; i < values.length; i++) {
      text.append(i == 0 ? "" : ", ").append(values[i]);
    }
    return text.append(')').toString();
  }

  /** A meadow with grass and buyers, so that there is something to sell. */
  private void settle(int c) {
    int a = c < 24 ? c : random.nextInt(24);
    int b = random.nextInt(4);
    int g = random.nextInt(201);
    if (c < 24) {
      is(told("plot", a, b, g), x.plot(a, b, g), m.plot(a, b, g));
    } else if (random.nextInt(3) > 0) {
      int cows = random.nextInt(20);
      int purse = random.nextInt(3000);
      is(told("buyer", cows, purse, a), x.buyer(cows, purse, a), m.buyer(cows, purse, a));
    } else {
      sell();
    }
  }

  private void sell() {
    int p = near(0, 23);
    int breaths = near(1, 60);
    int first = man();
    is(told("candle", p, breaths, first), x.candle(p, breaths, first), m.candle(p, breaths, first));
  }

  private void change() {
    int p = near(0, 23);
    int b = man();
    boolean is = random.nextBoolean();
    int n;
    switch (random.nextInt(14)) {
      case 0: {
        int kind = near(0, 3);
        n = near(0, random.nextInt(4) == 0 ? 9 : 200);
        is(told("plot", p, kind, n), x.plot(p, kind, n), m.plot(p, kind, n));
        break;
      }
      case 1: {
        int cows = near(0, random.nextBoolean() ? 3 : 50);
        n = money();
        is(told("buyer", cows, n, p), x.buyer(cows, n, p), m.buyer(cows, n, p));
        break;
      }
      case 2:
        n = money();
        is(told("purse", b, n), x.purse(b, n), m.purse(b, n));
        break;
      case 3:
        is(told("waits", b) + is, x.waits(b, is), m.waits(b, is));
        break;
      case 4:
        n = man();
        is(told("surety", b, n), x.surety(b, n), m.surety(b, n));
        break;
      case 5:
        n = near(1, random.nextBoolean() ? 10 : 100);
        is(told("step", n), x.step(n), m.step(n));
        break;
      case 6:
        n = random.nextInt(3) == 0 ? near(0, 30) : m.count(3) + random.nextInt(2);
        is(told("day", n), x.day(n), m.day(n));
        break;
      case 7:
      case 8:
        n = near(0, 30);
        is(told("rain", n) + is, x.rain(n, is), m.rain(n, is));
        break;
      case 9:
      case 10:
      case 11:
        is(told("cut", p), x.cut(p), m.cut(p));
        break;
      default:
        sell();
    }
  }

  private void ask() {
    int p = near(0, 23);
    int b = man();
    int w = near(0, 7);
    switch (random.nextInt(16)) {
      case 0: is(told("look", p, w), x.look(p, w), m.look(p, w)); break;
      case 1: is(told("about", b, w), x.about(b, w), m.about(b, w)); break;
      case 2: is(told("worth", p, b), x.worth(p, b), m.worth(p, b)); break;
      case 3: {
        int first = man();
        is(told("wins", p, first, b), x.wins(p, first, b), m.wins(p, first, b));
        break;
      }
      case 4: is(told("lots", p), x.lots(p), m.lots(p)); break;
      case 5: is(told("lotter", p), x.lotter(p), m.lotter(p)); break;
      case 6: is("ring()", x.ring(), m.ring()); break;
      case 7: is(told("way", p), x.way(p), m.way(p)); break;
      case 8: is("best()", x.best(), m.best()); break;
      case 9: is(told("order", w), x.order(w), m.order(w)); break;
      case 10: is(told("dry", p), x.dry(p), m.dry(p)); break;
      case 11: is(told("barn", p), x.barn(p), m.barn(p)); break;
      case 12: is(told("tithe", b), x.tithe(b), m.tithe(b)); break;
      case 13:
      case 14: {
        int what = near(0, 3);
        is(told("pays", b, what), x.pays(b, what), m.pays(b, what));
        break;
      }
      default: is(told("count", w), x.count(w), m.count(w));
    }
  }

  private void shelve() {
    int d = near(0, 7);
    int n = near(0, 60);
    switch (random.nextInt(8)) {
      case 0:
      case 1: {
        int what = near(0, 4);
        int k = random.nextBoolean() ? near(0, 23) : man();
        is(told("keep", d, what, k), x.keep(d, what, k), m.keep(d, what, k));
        break;
      }
      case 2: {
        int what = near(3, 4);
        is(told("make", d, what, n), x.make(d, what, n), m.make(d, what, n));
        break;
      }
      case 3:
        n = near(0, 24);
        DUE.says(run + told("element", d, n), Due.element(x, d, n), m.element(d, n));
        break;
      case 4:
      case 5: {
        int e = random.nextInt(3) == 0 ? d : near(0, 7);
        int i = near(0, 20);
        int j = near(0, 20);
        n = near(0, 24);
        is(told("copy", d, i, e, j, n), x.copy(d, i, e, j, n), m.copy(d, i, e, j, n));
        break;
      }
      case 6: is(told("weight", d), x.weight(d), m.weight(d)); break;
      default: is(told("toss", d), x.toss(d), m.toss(d));
    }
  }

  /** What can be seen, so that a refused call, or one that only tells, is caught if it changed something. */
  private void compare(int part) {
    switch (part) {
      case 1: comparePlots(); break;
      case 2: compareBuyers(); break;
      case 3: compareShelves(0); break;
      case 4: compareShelves(4); break;
      default:
    }
  }

  private void comparePlots() {
    for (int p = 0; p < 24; p++) {
      for (int w = 0; w < 8; w++) {
        is(told("look", p, w), x.look(p, w), m.look(p, w));
      }
      is(told("dry", p), x.dry(p), m.dry(p));
      is(told("barn", p), x.barn(p), m.barn(p));
    }
  }

  private void compareBuyers() {
    for (int b = 0; b < 10; b++) {
      for (int w = 0; w < 8; w++) {
        is(told("about", b, w), x.about(b, w), m.about(b, w));
        is(told("pays", b, w), x.pays(b, w), m.pays(b, w));
      }
    }
    for (int w = 0; w < 7; w++) {
      is(told("count", w), x.count(w), m.count(w));
      is(told("order", w), x.order(w), m.order(w));
    }
    is("ring()", x.ring(), m.ring());
    is("best()", x.best(), m.best());
  }

  private void compareShelves(int first) {
    for (int d = first; d < first + 4; d++) {
      is(told("weight", d), x.weight(d), m.weight(d));
      is(told("toss", d), x.toss(d), m.toss(d));
      for (int i = 0; i <= 60; i++) {
        DUE.says(run + told("element", d, i), Due.element(x, d, i), m.element(d, i));
      }
    }
  }
}
