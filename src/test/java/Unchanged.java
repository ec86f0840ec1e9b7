import java.util.ArrayList;
import java.util.List;

/**
 * Looks whether a call leaves an object as it was: every question is put to an object that was called and to one that
 * was not, both made by the same run. The questions come in parts, each to new objects, as an object answers no more
 * than 512 calls; and so a part may ask by calls that change something, where nothing else tells what is held.
 */
final class Unchanged {
  interface Run {
    CandleMeadow make();
  }

  interface Call {
    long on(CandleMeadow x);
  }

  private static final int PARTS = 7;

  private final Due due;
  private final String name;
  private final Run run;
  private final List<List<String>> before = new ArrayList<>();

  Unchanged(Due due, String name, Run run) {
    this.due = due;
    this.name = name;
    this.run = run;
    for (int part = 0; part < PARTS; part++) {
      before.add(answers(part, run.make()));
    }
  }

  void by(String told, long want, Call call) {
    for (int part = 0; part < PARTS; part++) {
      CandleMeadow x = run.make();
      due.is(name + ": " + told, call.on(x), want);
      compare(told, before.get(part), answers(part, x));
    }
  }

  /** As by, for a call that throws. */
  void byThrowing(String told, String want, int d, int i) {
    for (int part = 0; part < PARTS; part++) {
      CandleMeadow x = run.make();
      due.says(name + ": " + told, Due.element(x, d, i), want);
      compare(told, before.get(part), answers(part, x));
    }
  }

  /** A call that changes something is seen by one of the questions at least. */
  void seen(String told, Call call) {
    int changed = 0;
    for (int part = 0; part < PARTS; part++) {
      CandleMeadow x = run.make();
      due.is(name + ": " + told + " is not refused", call.on(x) < -2 ? 1 : 0, 0);
      changed += answers(part, x).equals(before.get(part)) ? 0 : 1;
    }
    due.is(name + ": " + told + " is seen", changed > 0 ? 1 : 0, 1);
  }

  private void compare(String told, List<String> was, List<String> is) {
    for (int i = 0; i < was.size(); i++) {
      due.says(name + ", behind " + told + ":", is.get(i), was.get(i));
    }
  }

  private static List<String> answers(int part, CandleMeadow x) {
    List<String> all = new ArrayList<>();
    switch (part) {
      case 0: plots(all, x); break;
      case 1: buyers(all, x); break;
      case 2: worths(all, x); break;
      case 3: shelves(all, x, 0); break;
      case 4: shelves(all, x, 4); break;
      case 5: wins(all, x); break;
      default: changes(all, x);
    }
    return all;
  }

  private static void add(List<String> all, String name, int a, int b, long answer) {
    all.add(name + "(" + a + ", " + b + ") " + answer);
  }

  private static void plots(List<String> all, CandleMeadow x) {
    for (int p = 0; p < 24; p++) {
      for (int what = 0; what < 8; what++) {
        add(all, "look", p, what, x.look(p, what));
      }
      add(all, "way", p, 0, x.way(p));
      add(all, "dry", p, 0, x.dry(p));
      add(all, "barn", p, 0, x.barn(p));
      add(all, "lots", p, 0, x.lots(p));
      add(all, "lotter", p, 0, x.lotter(p));
    }
  }

  private static void buyers(List<String> all, CandleMeadow x) {
    for (int b = 0; b < 10; b++) {
      for (int what = 0; what < 8; what++) {
        add(all, "about", b, what, x.about(b, what));
      }
      for (int what = 0; what < 4; what++) {
        add(all, "pays", b, what, x.pays(b, what));
      }
      add(all, "tithe", b, 0, x.tithe(b));
    }
    for (int i = 0; i < 7; i++) {
      add(all, "count", i, 0, x.count(i));
      add(all, "order", i, 0, x.order(i));
    }
    add(all, "ring", 0, 0, x.ring());
    add(all, "best", 0, 0, x.best());
  }

  private static void worths(List<String> all, CandleMeadow x) {
    for (int p = 0; p < 24; p++) {
      for (int b = 0; b < 10; b++) {
        add(all, "worth", p, b, x.worth(p, b));
      }
    }
  }

  private static void shelves(List<String> all, CandleMeadow x, int first) {
    for (int d = first; d < first + 4; d++) {
      add(all, "weight", d, 0, x.weight(d));
      add(all, "toss", d, 0, x.toss(d));
      for (int i = 0; i <= 60; i++) {
        all.add("element(" + d + ", " + i + ") " + Due.element(x, d, i));
      }
    }
  }

  private static void wins(List<String> all, CandleMeadow x) {
    for (int p = 0; p < 24; p++) {
      for (int b = 0; b < 10; b++) {
        add(all, "wins", p, b, x.wins(p, 0, b));
      }
    }
  }

  /** What only a change tells: which days are of rain, and who is whose surety. */
  private static void changes(List<String> all, CandleMeadow x) {
    for (int d = 0; d <= 30; d++) {
      add(all, "rain", d, 0, x.rain(d, false));
    }
    for (int b = 0; b < 10; b++) {
      add(all, "surety", b, -1, x.surety(b, -1));
      add(all, "waits", b, 0, x.waits(b, false));
      add(all, "purse", b, 0, x.purse(b, 0));
    }
    add(all, "step", 1, 0, x.step(1));
    add(all, "day", 30, 0, x.day(30));
    add(all, "buyer", 0, 0, x.buyer(0, 0, 0));
    for (int p = 0; p < 24; p++) {
      add(all, "plot", p, 0, x.plot(p, 0, 0));
    }
    for (int p = 0; p < 24; p++) {
      add(all, "cut", p, 0, x.cut(p));
    }
  }
}
