import java.util.ArrayList;
import java.util.Arrays;
import java.util.HashMap;
import java.util.List;
import java.util.Map;

/** The document once more, written by its words and without care for time, for ModelTest to compare with. */
final class Model {
  static final class Man {
    int cows;
    int purse;
    int home;
    int trampled;
    int surety = -1;
    boolean waits;
  }

  private final int[] kind = new int[24];
  private final int[] grass = new int[24];
  private final int[] owner = new int[24];
  private final int[] price = new int[24];
  private final int[] cutOn = new int[24];
  private final List<Man> men = new ArrayList<>();
  private final boolean[] wetDay = new boolean[31];
  private final Object[] shelves = new Object[8];
  private final List<int[]> sales = new ArrayList<>();
  private int step = 5;
  private int today = 0;

  Model() {
    Arrays.fill(owner, -2);
    Arrays.fill(price, -2);
    Arrays.fill(cutOn, -2);
  }

  private static boolean out(int n, int low, int high) {
    return n < low || n > high;
  }

  private boolean noMan(int b) {
    return out(b, 0, men.size() - 1);
  }

  private static int chance(int kind) {
    int dry = 80;
    int wet = dry - 30;
    return kind == 0 ? dry : kind == 1 ? wet : kind == 2 ? wet / 2 : dry + 15;
  }

  private int hay(int p) {
    return grass[p] * chance(kind[p]) / 100;
  }

  private boolean stands(int p) {
    return owner[p] != -2 && cutOn[p] == -2 && grass[p] > 0;
  }

  private int hayOf(int b) {
    int sum = 0;
    for (int p = 0; p < 24; p++) {
      sum += owner[p] == b ? hay(p) : 0;
    }
    return sum;
  }

  private int debt(int b) {
    int sum = 0;
    for (int p = 0; p < 24; p++) {
      sum += owner[p] == b ? price[p] : 0;
    }
    return sum;
  }

  private static int between(int p, int q) {
    return Math.abs(p / 6 - q / 6) + Math.abs(p % 6 - q % 6);
  }

  int plot(int p, int k, int g) {
    if (out(p, 0, 23) || out(k, 0, 3) || out(g, 0, 200)) {
      return -1;
    }
    if (owner[p] != -2) {
      return -3;
    }
    int before = grass[p];
    kind[p] = k;
    grass[p] = g;
    return before;
  }

  int buyer(int cows, int purse, int home) {
    if (out(cows, 0, 50) || out(purse, 0, 100000) || out(home, 0, 23)) {
      return -1;
    }
    if (men.size() == 10) {
      return -2;
    }
    Man man = new Man();
    man.cows = cows;
    man.purse = purse;
    man.home = home;
    men.add(man);
    return men.size() - 1;
  }

  int purse(int b, int n) {
    if (noMan(b) || out(n, 0, 100000)) {
      return -1;
    }
    int before = men.get(b).purse;
    men.get(b).purse = n;
    return before;
  }

  int waits(int b, boolean is) {
    if (noMan(b)) {
      return -1;
    }
    boolean before = men.get(b).waits;
    men.get(b).waits = is;
    return before == is ? 0 : 1;
  }

  int surety(int b, int other) {
    if (noMan(b) || other == b || other != -1 && noMan(other)) {
      return -1;
    }
    int before = men.get(b).surety;
    men.get(b).surety = other;
    return before == -1 ? -2 : before;
  }

  int step(int n) {
    if (out(n, 1, 100)) {
      return -1;
    }
    int before = step;
    step = n;
    return before;
  }

  int look(int p, int what) {
    if (out(p, 0, 23) || out(what, 0, 7)) {
      return -1;
    }
    int[] all = {kind[p], grass[p], chance(kind[p]), hay(p), owner[p], price[p], cutOn[p], stands(p) ? 1 : 0};
    return all[what];
  }

  int about(int b, int what) {
    if (noMan(b) || out(what, 0, 7)) {
      return -1;
    }
    Man m = men.get(b);
    int[] all = {m.cows, m.purse, m.home, 12 * m.cows, hayOf(b), debt(b), m.trampled, m.waits ? 1 : 0};
    return all[what];
  }

  int worth(int p, int b) {
    if (out(p, 0, 23) || noMan(b)) {
      return -1;
    }
    Man m = men.get(b);
    int worth = 10 * hay(p) - 5 * between(p, m.home);
    boolean beside = false;
    for (int q = 0; q < 24; q++) {
      beside |= between(p, q) == 1 && owner[q] == b;
    }
    worth += beside ? 20 : 0;
    worth *= hayOf(b) < 12 * m.cows ? 2 : 1;
    return worth < 0 ? 0 : worth;
  }

  /** Who bids last, and how much; {-2, 0} if nobody does. */
  private int[] burn(int p, int breaths, int first) {
    int last = -2;
    int bid = 0;
    int n = men.size();
    for (int b = 0; b < breaths; b++) {
      int who = (first + b) % n;
      Man m = men.get(who);
      int next = bid + step;
      boolean may = next <= worth(p, who) && next <= m.purse - debt(who) && last != who;
      if (may && (!m.waits || breaths - b <= 3 * n)) {
        last = who;
        bid = next;
      }
    }
    return new int[] {last, bid};
  }

  int candle(int p, int breaths, int first) {
    if (out(p, 0, 23) || out(breaths, 1, 60) || noMan(first)) {
      return -1;
    }
    if (owner[p] != -2) {
      return -3;
    }
    int[] end = burn(p, breaths, first);
    if (end[0] == -2) {
      return -4;
    }
    sales.add(new int[] {end[1], Math.max(lots(p), 0)});
    owner[p] = end[0];
    price[p] = end[1];
    return end[1];
  }

  int wins(int p, int first, int b) {
    if (out(p, 0, 23) || noMan(first) || noMan(b)) {
      return -1;
    }
    if (owner[p] != -2) {
      return -3;
    }
    int wins = 0;
    for (int breaths = 1; breaths <= 60; breaths++) {
      wins += burn(p, breaths, first)[0] == b ? 1 : 0;
    }
    return wins;
  }

  /** Those that may, the one with the greatest cap first, of like ones the first: {buyer, cap} each. */
  private List<int[]> lotRow(int p) {
    List<int[]> row = new ArrayList<>();
    for (int b = 0; b < men.size(); b++) {
      int cap = Math.min(worth(p, b), men.get(b).purse - debt(b));
      if (cap >= step) {
        row.add(new int[] {b, cap});
      }
    }
    row.sort((a, b) -> a[1] != b[1] ? b[1] - a[1] : a[0] - b[0]);
    return row;
  }

  int lots(int p) {
    if (out(p, 0, 23)) {
      return -1;
    }
    if (owner[p] != -2) {
      return -3;
    }
    List<int[]> row = lotRow(p);
    if (row.isEmpty()) {
      return -4;
    }
    return row.size() == 1 ? step : Math.min(row.get(0)[1], row.get(1)[1] + step);
  }

  int lotter(int p) {
    int price = lots(p);
    return price < 0 ? price : lotRow(p).get(0)[0];
  }

  int ring() {
    int sum = 0;
    for (int[] sale : sales) {
      sum += sale[0] - sale[1];
    }
    return sum;
  }

  int day(int day) {
    if (out(day, today, 30)) {
      return -1;
    }
    int before = today;
    today = day;
    return before;
  }

  int rain(int day, boolean is) {
    if (out(day, 0, 30)) {
      return -1;
    }
    boolean before = wetDay[day];
    wetDay[day] = is;
    return before == is ? 0 : 1;
  }

  /** What each plot tramples if the plots of a set stand, by all pairs of plots. */
  private int[] trampledBy(int set) {
    int[] toll = new int[24];
    int[][] far = new int[24][24];
    for (int p = 0; p < 24; p++) {
      toll[p] = (set >> p & 1) == 1 ? grass[p] / 10 : 0;
    }
    for (int p = 0; p < 24; p++) {
      for (int q = 0; q < 24; q++) {
        far[p][q] = p == q ? 0 : between(p, q) == 1 ? toll[q] : 1000000;
      }
    }
    for (int k = 0; k < 24; k++) {
      for (int p = 0; p < 24; p++) {
        for (int q = 0; q < 24; q++) {
          far[p][q] = Math.min(far[p][q], far[p][k] + far[k][q]);
        }
      }
    }
    int[] toGate = new int[24];
    for (int p = 0; p < 24; p++) {
      toGate[p] = far[p][0];
    }
    return toGate;
  }

  private int standing() {
    int set = 0;
    for (int p = 0; p < 24; p++) {
      set |= stands(p) ? 1 << p : 0;
    }
    return set;
  }

  int way(int p) {
    return out(p, 0, 23) ? -1 : trampledBy(standing())[p];
  }

  int cut(int p) {
    if (out(p, 0, 23)) {
      return -1;
    }
    if (!stands(p)) {
      return -3;
    }
    int trampled = way(p);
    men.get(owner[p]).trampled += trampled;
    cutOn[p] = today;
    return trampled;
  }

  private int[] bestRow;
  private int bestSum;

  /** All rows, the least first, so that of like ones the first found stays. */
  private void tryRows(int set, int[] row, int size, int sum, Map<Integer, int[]> known) {
    if (set == 0) {
      if (sum < bestSum) {
        bestSum = sum;
        bestRow = Arrays.copyOf(row, size);
      }
      return;
    }
    int[] trampled = known.computeIfAbsent(set, this::trampledBy);
    for (int p = 0; p < 24; p++) {
      if ((set >> p & 1) == 1) {
        row[size] = p;
        tryRows(set & ~(1 << p), row, size + 1, sum + trampled[p], known);
      }
    }
  }

  int best() {
    if (Integer.bitCount(standing()) > 6) {
      return -5;
    }
    bestSum = Integer.MAX_VALUE;
    tryRows(standing(), new int[6], 0, 0, new HashMap<>());
    return bestSum;
  }

  int order(int i) {
    if (i < 0) {
      return -1;
    }
    if (best() == -5) {
      return -5;
    }
    return i < bestRow.length ? bestRow[i] : -3;
  }

  /** {day, loads}; {-4, 0} if it is lost. */
  private int[] dried(int p) {
    int left = hay(p);
    int suns = 0;
    for (int d = cutOn[p] + 1; d < 31; d++) {
      if (wetDay[d]) {
        suns = suns == 0 ? 0 : suns - 1;
        left = left - left / 10;
      } else {
        suns++;
      }
      if (suns == 3) {
        return new int[] {d, left};
      }
    }
    return new int[] {-4, 0};
  }

  int dry(int p) {
    return out(p, 0, 23) ? -1 : cutOn[p] == -2 ? -3 : dried(p)[0];
  }

  int barn(int p) {
    return out(p, 0, 23) ? -1 : cutOn[p] == -2 ? -3 : dried(p)[1];
  }

  int tithe(int b) {
    if (noMan(b)) {
      return -1;
    }
    int sum = 0;
    for (int p = 0; p < 24; p++) {
      sum += owner[p] == b ? Math.max(barn(p), 0) : 0;
    }
    return sum / 10;
  }

  int pays(int b, int what) {
    if (noMan(b) || out(what, 0, 3)) {
      return -1;
    }
    int n = men.size();
    int[] owes = new int[n];
    int[] purse = new int[n];
    int[][] told = new int[n][];
    for (int m = 0; m < n; m++) {
      owes[m] = debt(m) + 10 * men.get(m).trampled;
      int pays = Math.min(owes[m], men.get(m).purse);
      purse[m] = men.get(m).purse - pays;
      told[m] = new int[] {owes[m], pays, 0, owes[m] - pays};
    }
    for (int m = 0; m < n; m++) {
      int surety = men.get(m).surety;
      if (told[m][3] > 0 && surety != -1) {
        int helps = Math.min(told[m][3], purse[surety]);
        purse[surety] -= helps;
        told[m][2] = helps;
        told[m][3] -= helps;
      }
    }
    return told[b][what];
  }

  int count(int what) {
    int sold = 0;
    int hay = 0;
    int wet = 0;
    for (int p = 0; p < 24; p++) {
      sold += owner[p] == -2 ? 0 : 1;
      hay += hay(p);
    }
    for (boolean is : wetDay) {
      wet += is ? 1 : 0;
    }
    int[] all = {men.size(), sold, Integer.bitCount(standing()), today, step, hay, wet};
    return out(what, 0, 6) ? -1 : all[what];
  }

  /** A plot as it was then: {number, kind, grass}. */
  private record Kept(int number, int kind, int grass) {
  }

  int keep(int d, int what, int k) {
    if (out(d, 0, 7)) {
      return -1;
    }
    if (what == 0) {
      shelves[d] = null;
    } else if (what == 1 && !out(k, 0, 23)) {
      shelves[d] = new Kept(k, kind[k], grass[k]);
    } else if (what == 3 && !noMan(k)) {
      int[] row = new int[24];
      for (int p = 0; p < 24; p++) {
        row[p] = worth(p, k);
      }
      shelves[d] = row;
    } else if (what == 4) {
      byte[] row = new byte[24];
      for (int p = 0; p < 24; p++) {
        row[p] = (byte) (owner[p] == -2 ? -1 : owner[p]);
      }
      shelves[d] = row;
    } else {
      return -1;
    }
    return 0;
  }

  int make(int d, int what, int n) {
    if (out(d, 0, 7) || what != 3 && what != 4 || n > 60) {
      return -1;
    }
    if (n < 0) {
      return -14;
    }
    if (what == 3) {
      shelves[d] = new int[n];
    } else {
      shelves[d] = new byte[n];
    }
    return 0;
  }

  private static int length(Object row) {
    return row instanceof int[] ints ? ints.length : row instanceof byte[] bytes ? bytes.length : -1;
  }

  String element(int d, int i) {
    if (out(d, 0, 7)) {
      return "throws.IllegalArgumentException";
    }
    if (out(i, 0, length(shelves[d]) - 1)) {
      return "throws.IllegalStateException";
    }
    return String.valueOf(shelves[d] instanceof int[] ints ? ints[i] : ((byte[]) shelves[d])[i]);
  }

  int copy(int d, int i, int e, int j, int n) {
    if (out(d, 0, 7) || out(e, 0, 7)) {
      return -1;
    }
    if (shelves[d] == null || shelves[e] == null) {
      return -11;
    }
    if (length(shelves[d]) < 0 || shelves[d].getClass() != shelves[e].getClass()) {
      return -12;
    }
    if (n < 0 || i < 0 || j < 0 || (long) i + n > length(shelves[d]) || (long) j + n > length(shelves[e])) {
      return -13;
    }
    if (shelves[d] instanceof int[] from) {
      int[] before = from.clone();
      for (int k = 0; k < n; k++) {
        ((int[]) shelves[e])[j + k] = before[i + k];
      }
    } else {
      byte[] before = ((byte[]) shelves[d]).clone();
      for (int k = 0; k < n; k++) {
        ((byte[]) shelves[e])[j + k] = before[i + k];
      }
    }
    return n;
  }

  private int refusal(int d) {
    return out(d, 0, 7) ? -1 : shelves[d] == null ? -11 : shelves[d] instanceof Kept ? 0 : -12;
  }

  int weight(int d) {
    if (refusal(d) != 0) {
      return refusal(d);
    }
    Kept kept = (Kept) shelves[d];
    int plain = 10 + kept.grass();
    int[] all = {plain, plain + chance(1), 2 * (plain + chance(2)), plain + 100};
    return all[kept.kind()];
  }

  int toss(int d) {
    if (refusal(d) != 0) {
      return refusal(d);
    }
    Kept kept = (Kept) shelves[d];
    return kept.kind() == 0 ? -15 : kept.number();
  }
}
