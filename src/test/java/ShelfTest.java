/** Promises 27 to 32: what the shelves hold, rows and their copies, weights and failures. */
public final class ShelfTest {
  private static final Due DUE = new Due();

  public static void main(String[] args) {
    keep();
    keepRows();
    make();
    element();
    copy();
    copyOverlapping();
    copyRefusals();
    weight();
    toss();
    DUE.end();
  }

  private static void keep() {
    CandleMeadow x = new CandleMeadow();
    x.buyer(0, 100, 0);
    int[][] wrong = {{-1, 0, 0}, {8, 0, 0}, {0, 2, 0}, {0, 5, 0}, {0, -1, 0}, {0, 1, -1}, {0, 1, 24}, {0, 3, -1},
        {0, 3, 1}, {8, 4, 0}};
    for (int[] w : wrong) {
      DUE.is("keep(" + w[0] + ", " + w[1] + ", " + w[2] + ")", x.keep(w[0], w[1], w[2]), -1);
    }
    DUE.is("still nothing: weight(0)", x.weight(0), -11);
    DUE.is("keep(0, 1, 23)", x.keep(0, 1, 23), 0);
    DUE.is("weight(0)", x.weight(0), 10);
    DUE.is("refused: keep(0, 3, 1)", x.keep(0, 3, 1), -1);
    DUE.is("refused: keep(0, 1, 24)", x.keep(0, 1, 24), -1);
    DUE.is("it stays: weight(0)", x.weight(0), 10);
    DUE.is("keep(0, 0, 99)", x.keep(0, 0, 99), 0);
    DUE.is("nothing again: weight(0)", x.weight(0), -11);
    DUE.is("keep(7, 4, -5)", x.keep(7, 4, -5), 0);
    DUE.is("a row: weight(7)", x.weight(7), -12);
  }

  private static void keepRows() {
    CandleMeadow x = new CandleMeadow();
    x.buyer(0, 1000, 0);
    x.buyer(1, 1000, 23);
    x.plot(0, 0, 100);
    x.plot(23, 3, 200);
    x.plot(6, 1, 10);
    x.candle(0, 1, 0);
    x.candle(23, 1, 1);
    DUE.is("keep(1, 3, 0)", x.keep(1, 3, 0), 0);
    DUE.is("keep(2, 3, 1)", x.keep(2, 3, 1), 0);
    DUE.is("keep(3, 4, 0)", x.keep(3, 4, 0), 0);
    long[] worths = new long[24];
    worths[0] = 800;
    worths[1] = 15;
    worths[6] = 65;
    worths[23] = 1860;
    DUE.row(x, 1, worths);
    for (int p = 0; p < 24; p++) {
      DUE.says("element(2, " + p + ")", Due.element(x, 2, p), String.valueOf(x.worth(p, 1)));
    }
    long[] owners = new long[24];
    java.util.Arrays.fill(owners, -1);
    owners[0] = 0;
    owners[23] = 1;
    DUE.row(x, 3, owners);
    x.candle(6, 1, 0);
    DUE.row(x, 1, worths);
    DUE.row(x, 3, owners);
    DUE.is("a shorter row in its place: make(1, 3, 2)", x.make(1, 3, 2), 0);
    DUE.row(x, 1, 0, 0);
    x.make(1, 3, 24);
    DUE.row(x, 1, new long[24]);
    x.make(3, 4, 24);
    DUE.row(x, 3, new long[24]);
    CandleMeadow y = new CandleMeadow();
    y.keep(0, 4, 0);
    long[] nobody = new long[24];
    java.util.Arrays.fill(nobody, -1);
    DUE.row(y, 0, nobody);
  }

  private static void make() {
    CandleMeadow x = new CandleMeadow();
    DUE.is("make(0, 3, 60)", x.make(0, 3, 60), 0);
    DUE.row(x, 0, new long[60]);
    DUE.is("make(0, 4, 60)", x.make(0, 4, 60), 0);
    DUE.row(x, 0, new long[60]);
    DUE.is("make(0, 3, 0)", x.make(0, 3, 0), 0);
    DUE.row(x, 0);
    DUE.is("make(0, 3, 61)", x.make(0, 3, 61), -1);
    DUE.is("make(0, 3, -1)", x.make(0, 3, -1), -14);
    DUE.is("make(0, 4, least)", x.make(0, 4, Integer.MIN_VALUE), -14);
    DUE.is("make(0, 2, 1)", x.make(0, 2, 1), -1);
    DUE.is("make(0, 1, 1)", x.make(0, 1, 1), -1);
    DUE.is("make(0, 0, 1)", x.make(0, 0, 1), -1);
    DUE.is("make(0, 5, -1)", x.make(0, 5, -1), -1);
    DUE.is("make(8, 3, -1)", x.make(8, 3, -1), -1);
    DUE.is("make(-1, 3, 1)", x.make(-1, 3, 1), -1);
    DUE.row(x, 0);
    x.plot(1, 0, 5);
    x.keep(1, 1, 1);
    x.make(1, 3, -1);
    DUE.is("refused, it stays: weight(1)", x.weight(1), 15);
  }

  private static void element() {
    CandleMeadow x = new CandleMeadow();
    x.make(0, 3, 2);
    x.make(1, 4, 2);
    x.keep(2, 1, 0);
    String[][] due = {{"-1", "0", "throws.IllegalArgumentException"}, {"8", "0", "throws.IllegalArgumentException"},
        {"8", "-1", "throws.IllegalArgumentException"}, {"3", "0", "throws.IllegalStateException"},
        {"2", "0", "throws.IllegalStateException"}, {"0", "-1", "throws.IllegalStateException"},
        {"0", "2", "throws.IllegalStateException"}, {"1", "2", "throws.IllegalStateException"},
        {"0", "2147483647", "throws.IllegalStateException"}, {"1", "-2147483648", "throws.IllegalStateException"},
        {"0", "0", "0"}, {"0", "1", "0"}, {"1", "1", "0"}};
    for (String[] d : due) {
      DUE.says("element(" + d[0] + ", " + d[1] + ")",
          Due.element(x, Integer.parseInt(d[0]), Integer.parseInt(d[1])), d[2]);
    }
  }

  /** Shelf 0: ints with 1900 at place 0 and 1785 at place 3; shelf 1: bytes with 0 and 1 at places 0 and 1. */
  private static CandleMeadow rows() {
    CandleMeadow x = new CandleMeadow();
    x.plot(0, 3, 200);
    x.plot(3, 3, 190);
    x.buyer(0, 1000, 0);
    x.buyer(0, 1000, 0);
    x.keep(0, 3, 0);
    x.candle(0, 1, 0);
    x.plot(1, 0, 100);
    x.candle(1, 1, 1);
    x.keep(1, 4, 0);
    return x;
  }

  private static void copy() {
    CandleMeadow x = rows();
    x.make(2, 3, 5);
    x.make(3, 4, 3);
    DUE.is("copy(0, 0, 2, 1, 4)", x.copy(0, 0, 2, 1, 4), 4);
    DUE.row(x, 2, 0, 1900, 0, 0, 1785);
    DUE.is("copy(1, 0, 3, 0, 3)", x.copy(1, 0, 3, 0, 3), 3);
    DUE.row(x, 3, 0, 1, -1);
    DUE.is("nothing at the end: copy(2, 5, 0, 24, 0)", x.copy(2, 5, 0, 24, 0), 0);
    DUE.is("onto the last: copy(0, 0, 2, 4, 1)", x.copy(0, 0, 2, 4, 1), 1);
    DUE.row(x, 2, 0, 1900, 0, 0, 1900);
    x.make(2, 3, 5);
    DUE.says("the other row stays: element(0, 0)", Due.element(x, 0, 0), "1900");
  }

  private static void copyOverlapping() {
    CandleMeadow x = rows();
    x.make(2, 3, 6);
    x.copy(0, 0, 2, 0, 6);
    DUE.row(x, 2, 1900, 0, 0, 1785, 0, 0);
    DUE.is("on: copy(2, 0, 2, 1, 5)", x.copy(2, 0, 2, 1, 5), 5);
    DUE.row(x, 2, 1900, 1900, 0, 0, 1785, 0);
    DUE.is("back: copy(2, 1, 2, 0, 5)", x.copy(2, 1, 2, 0, 5), 5);
    DUE.row(x, 2, 1900, 0, 0, 1785, 0, 0);
    DUE.is("in place: copy(2, 0, 2, 0, 6)", x.copy(2, 0, 2, 0, 6), 6);
    DUE.row(x, 2, 1900, 0, 0, 1785, 0, 0);
    x.make(3, 4, 4);
    x.copy(1, 0, 3, 0, 3);
    DUE.is("bytes: copy(3, 0, 3, 1, 3)", x.copy(3, 0, 3, 1, 3), 3);
    DUE.row(x, 3, 0, 0, 1, -1);
  }

  private static void copyRefusals() {
    CandleMeadow x = rows();
    x.make(2, 3, 5);
    x.keep(4, 1, 0);
    int most = Integer.MAX_VALUE;
    int[][] due = {{-1, 0, 0, 0, 0, -1}, {8, 0, 0, 0, 0, -1}, {0, 0, -1, 0, 0, -1}, {0, 0, 8, 0, 0, -1},
        {5, 0, 8, 0, -1, -1}, {5, 0, 0, 0, 1, -11}, {0, 0, 5, 0, 1, -11}, {4, 0, 5, 0, -1, -11}, {5, 0, 4, 0, 1, -11},
        {4, 0, 0, 0, 1, -12}, {0, 0, 4, 0, 1, -12}, {4, 0, 4, 0, 0, -12}, {0, 0, 1, 0, 1, -12}, {1, 0, 0, 0, -1, -12},
        {0, 0, 2, 0, -1, -13}, {0, -1, 2, 0, 1, -13}, {0, 0, 2, -1, 1, -13}, {0, 0, 2, 0, 6, -13}, {0, 0, 2, 1, 5, -13},
        {0, 20, 2, 0, 5, -13}, {0, 25, 2, 0, 0, -13}, {0, 0, 2, 6, 0, -13}, {0, most, 2, 0, 1, -13},
        {0, 0, 2, most, 1, -13}, {0, 1, 2, 1, most, -13}, {0, most, 2, most, most, -13}};
    for (int[] c : due) {
      DUE.is("copy(" + c[0] + ", " + c[1] + ", " + c[2] + ", " + c[3] + ", " + c[4] + ")",
          x.copy(c[0], c[1], c[2], c[3], c[4]), c[5]);
    }
    DUE.row(x, 2, 0, 0, 0, 0, 0);
  }

  private static void weight() {
    CandleMeadow x = new CandleMeadow();
    int[] due = {10, 60, 70, 110};
    int[] full = {210, 260, 470, 310};
    for (int kind = 0; kind < 4; kind++) {
      x.plot(kind, kind, 0);
      x.keep(kind, 1, kind);
      x.plot(kind, kind, 200);
      x.keep(kind + 4, 1, kind);
      DUE.is("bare, as it was then: weight(" + kind + ")", x.weight(kind), due[kind]);
      DUE.is("full: weight(" + (kind + 4) + ")", x.weight(kind + 4), full[kind]);
      x.plot(kind, 3 - kind, 50);
      DUE.is("of the kind that it was then: weight(" + (kind + 4) + ")", x.weight(kind + 4), full[kind]);
    }
    DUE.is("weight(-1)", x.weight(-1), -1);
    DUE.is("weight(8)", x.weight(8), -1);
    x.keep(0, 0, 0);
    DUE.is("weight(0)", x.weight(0), -11);
    x.make(0, 3, 1);
    DUE.is("ints: weight(0)", x.weight(0), -12);
    x.make(0, 4, 1);
    DUE.is("bytes: weight(0)", x.weight(0), -12);
  }

  private static void toss() {
    CandleMeadow x = new CandleMeadow();
    for (int p = 0; p < 24; p++) {
      for (int kind = 0; kind < 4; kind++) {
        x.plot(p, kind, 3);
        x.keep(kind, 1, p);
        DUE.is("plot " + p + " of kind " + kind + ": toss(" + kind + ")", x.toss(kind), kind == 0 ? -15 : p);
      }
    }
    x.plot(23, 0, 3);
    DUE.is("as it was then: toss(1)", x.toss(1), 23);
    DUE.is("caught and still there: toss(1)", x.toss(1), 23);
    DUE.is("toss(-1)", x.toss(-1), -1);
    DUE.is("toss(8)", x.toss(8), -1);
    DUE.is("toss(7)", x.toss(7), -11);
    x.make(7, 3, 1);
    DUE.is("toss(7)", x.toss(7), -12);
    x.make(7, 4, 0);
    DUE.is("toss(7)", x.toss(7), -12);
  }
}
