/** The edges of promises 27 to 32: the shelves, their rows and places, weights and failures. */
public final class ShelfEdgesTest {
  private static final Due DUE = new Due();
  private static final int LEAST = Integer.MIN_VALUE;
  private static final int MOST = Integer.MAX_VALUE;
  private static final String NO_SHELF = "throws.IllegalArgumentException";
  private static final String NO_PLACE = "throws.IllegalStateException";

  public static void main(String[] args) {
    shelvesFromNoughtTo7();
    eachShelfHoldsItsOwn();
    whatIsKept();
    keepAPlot();
    aPlotAsItIsThen();
    keepWorths();
    keepOwners();
    keepNothing();
    sizesFromNoughtTo60();
    madeOfInts();
    madeRowsAreNought();
    elementOfNoShelf();
    elementOfNothingOrAPlot();
    elementOfAPlace();
    copyOfNoShelf();
    copyOfNothing();
    copyOfAnotherKind();
    copyOfPlaces();
    copyBelowNought();
    copyOfNoElements();
    copyOfAll();
    copyAsTheyAllWereBefore();
    copyLeavesTheRest();
    weightRefusals();
    weightOfEachKind();
    tossRefusals();
    tossOfEachKind();
    DUE.end();
  }

  private static void element(CandleMeadow x, int d, int i, String due) {
    DUE.says("element(" + d + ", " + i + ")", Due.element(x, d, i), due);
  }

  // ---- promise 27: keep

  private static void shelvesFromNoughtTo7() {
    CandleMeadow x = new CandleMeadow();
    x.buyer(0, 0, 0);
    int[] none = {-1, 8, LEAST, MOST};
    for (int d : none) {
      DUE.is("keep(" + d + ", 0, 0)", x.keep(d, 0, 0), -1);
      DUE.is("keep(" + d + ", 1, 0)", x.keep(d, 1, 0), -1);
      DUE.is("keep(" + d + ", 3, 0)", x.keep(d, 3, 0), -1);
      DUE.is("keep(" + d + ", 4, 0)", x.keep(d, 4, 0), -1);
      DUE.is("make(" + d + ", 3, 1)", x.make(d, 3, 1), -1);
      DUE.is("make(" + d + ", 4, 1)", x.make(d, 4, 1), -1);
      DUE.is("weight(" + d + ")", x.weight(d), -1);
      DUE.is("toss(" + d + ")", x.toss(d), -1);
      element(x, d, 0, NO_SHELF);
    }
    for (int d = 0; d < 8; d++) {
      DUE.is("still nothing: weight(" + d + ")", x.weight(d), -11);
    }
    for (int d = 0; d < 8; d += 7) {
      DUE.is("keep(" + d + ", 1, 0)", x.keep(d, 1, 0), 0);
      DUE.is("weight(" + d + ")", x.weight(d), 10);
      DUE.is("make(" + d + ", 3, 1)", x.make(d, 3, 1), 0);
      element(x, d, 0, "0");
    }
  }

  private static void eachShelfHoldsItsOwn() {
    CandleMeadow x = new CandleMeadow();
    for (int d = 0; d < 8; d++) {
      x.plot(d, 0, 10 * d);
      x.keep(d, 1, d);
    }
    for (int d = 0; d < 8; d++) {
      DUE.is("weight(" + d + ")", x.weight(d), 10 + 10 * d);
    }
    for (int d = 0; d < 8; d++) {
      x.make(d, 3 + d % 2, d);
    }
    for (int d = 0; d < 8; d++) {
      DUE.row(x, d, new long[d]);
    }
    x.keep(3, 0, 0);
    DUE.is("weight(3)", x.weight(3), -11);
    DUE.is("weight(2)", x.weight(2), -12);
    DUE.is("weight(4)", x.weight(4), -12);
  }

  private static void whatIsKept() {
    CandleMeadow x = new CandleMeadow();
    x.buyer(0, 0, 0);
    int[] none = {-1, 2, 5, LEAST, MOST};
    for (int what : none) {
      DUE.is("keep(0, " + what + ", 0)", x.keep(0, what, 0), -1);
      DUE.is("still nothing: weight(0)", x.weight(0), -11);
    }
    DUE.is("keep(0, 0, 0)", x.keep(0, 0, 0), 0);
    DUE.is("nothing: weight(0)", x.weight(0), -11);
    DUE.is("keep(0, 1, 0)", x.keep(0, 1, 0), 0);
    DUE.is("a plot: weight(0)", x.weight(0), 10);
    DUE.is("keep(0, 3, 0)", x.keep(0, 3, 0), 0);
    DUE.is("a row: weight(0)", x.weight(0), -12);
    DUE.is("keep(1, 4, 0)", x.keep(1, 4, 0), 0);
    DUE.is("ints and bytes: copy(0, 0, 1, 0, 0)", x.copy(0, 0, 1, 0, 0), -12);
    for (int what : none) {
      DUE.is("keep(0, " + what + ", 0)", x.keep(0, what, 0), -1);
      element(x, 0, 23, "0");
    }
  }

  private static void keepAPlot() {
    CandleMeadow x = new CandleMeadow();
    x.plot(0, 0, 1);
    x.plot(23, 0, 2);
    DUE.is("keep(0, 1, 0)", x.keep(0, 1, 0), 0);
    DUE.is("weight(0)", x.weight(0), 11);
    int[] none = {-1, 24, LEAST, MOST};
    for (int k : none) {
      DUE.is("keep(0, 1, " + k + ")", x.keep(0, 1, k), -1);
      DUE.is("it stays: weight(0)", x.weight(0), 11);
      DUE.is("keep(5, 1, " + k + ")", x.keep(5, 1, k), -1);
      DUE.is("nothing stays nothing: weight(5)", x.weight(5), -11);
    }
    DUE.is("keep(0, 1, 23)", x.keep(0, 1, 23), 0);
    DUE.is("weight(0)", x.weight(0), 12);
  }

  private static void aPlotAsItIsThen() {
    CandleMeadow x = new CandleMeadow();
    x.plot(9, 1, 30);
    x.keep(0, 1, 9);
    x.plot(9, 0, 77);
    DUE.is("wet with 30: weight(0)", x.weight(0), 90);
    DUE.is("wet: toss(0)", x.toss(0), 9);
    x.keep(1, 1, 9);
    DUE.is("dry with 77: weight(1)", x.weight(1), 87);
    DUE.is("dry: toss(1)", x.toss(1), -15);
    x.plot(9, 3, 0);
    DUE.is("still dry: toss(1)", x.toss(1), -15);
    DUE.is("still 77: weight(1)", x.weight(1), 87);
    x.buyer(0, 100, 10);
    x.plot(10, 0, 40);
    x.candle(10, 1, 0);
    x.keep(2, 1, 10);
    x.cut(10);
    DUE.is("sold, cut since: weight(2)", x.weight(2), 50);
  }

  private static void keepWorths() {
    CandleMeadow x = new CandleMeadow();
    DUE.is("no buyers: keep(0, 3, 0)", x.keep(0, 3, 0), -1);
    for (int b = 0; b < 10; b++) {
      x.buyer(b, 1000, b);
    }
    x.plot(0, 0, 50);
    int[] nobody = {-1, 10, LEAST, MOST};
    for (int k : nobody) {
      DUE.is("keep(0, 3, " + k + ")", x.keep(0, 3, k), -1);
      DUE.is("still nothing: weight(0)", x.weight(0), -11);
    }
    DUE.is("keep(0, 3, 0)", x.keep(0, 3, 0), 0);
    DUE.is("keep(1, 3, 9)", x.keep(1, 3, 9), 0);
    long[] first = new long[24];
    first[0] = 400;
    long[] last = new long[24];
    last[0] = 760;
    DUE.row(x, 0, first);
    DUE.row(x, 1, last);
    x.plot(0, 0, 0);
    DUE.row(x, 0, first);
    DUE.is("refused: keep(0, 3, 10)", x.keep(0, 3, 10), -1);
    DUE.row(x, 0, first);
  }

  private static void keepOwners() {
    CandleMeadow x = new CandleMeadow();
    long[] due = new long[24];
    java.util.Arrays.fill(due, -1);
    int[] any = {0, -1, 24, LEAST, MOST};
    for (int k : any) {
      DUE.is("nobody there: keep(0, 4, " + k + ")", x.keep(0, 4, k), 0);
    }
    DUE.row(x, 0, due);
    for (int b = 0; b < 10; b++) {
      x.buyer(0, 1000, 2 * b);
    }
    for (int b = 0; b < 10; b++) {
      x.plot(2 * b, 0, 50);
      x.candle(2 * b, 1, b);
      due[2 * b] = b;
    }
    x.plot(23, 3, 200);
    x.candle(23, 1, 9);
    due[23] = 9;
    x.cut(23);
    x.keep(1, 4, 0);
    DUE.row(x, 1, due);
    x.plot(1, 3, 200);
    x.candle(1, 1, 0);
    DUE.row(x, 1, due);
    x.keep(1, 4, 0);
    due[1] = 0;
    DUE.row(x, 1, due);
  }

  private static void keepNothing() {
    CandleMeadow x = new CandleMeadow();
    int[] any = {0, -1, 24, LEAST, MOST};
    for (int k : any) {
      x.make(7, 3, 60);
      DUE.is("keep(7, 0, " + k + ")", x.keep(7, 0, k), 0);
      DUE.is("weight(7)", x.weight(7), -11);
      element(x, 7, 0, NO_PLACE);
    }
  }

  // ---- promise 28: make

  private static void sizesFromNoughtTo60() {
    for (int what = 3; what <= 4; what++) {
      CandleMeadow x = new CandleMeadow();
      DUE.is("make(0, " + what + ", 60)", x.make(0, what, 60), 0);
      int[] belowNought = {-1, -2, LEAST};
      for (int n : belowNought) {
        DUE.is("make(0, " + what + ", " + n + ")", x.make(0, what, n), -14);
      }
      int[] tooMany = {61, 62, MOST};
      for (int n : tooMany) {
        DUE.is("make(0, " + what + ", " + n + ")", x.make(0, what, n), -1);
      }
      DUE.row(x, 0, new long[60]);
      DUE.is("make(0, " + what + ", 1)", x.make(0, what, 1), 0);
      DUE.row(x, 0, 0);
      DUE.is("make(0, " + what + ", 0)", x.make(0, what, 0), 0);
      DUE.row(x, 0);
      DUE.is("an empty row is a row: weight(0)", x.weight(0), -12);
    }
  }

  private static void madeOfInts() {
    CandleMeadow x = new CandleMeadow();
    int[] none = {-1, 0, 1, 2, 5, LEAST, MOST};
    for (int what : none) {
      DUE.is("make(0, " + what + ", 1)", x.make(0, what, 1), -1);
      DUE.is("-1 ahead of -14: make(0, " + what + ", -1)", x.make(0, what, -1), -1);
      DUE.is("still nothing: weight(0)", x.weight(0), -11);
    }
    DUE.is("-1 ahead of -14: make(8, 3, -1)", x.make(8, 3, -1), -1);
    DUE.is("-1 ahead of -14: make(-1, 4, -1)", x.make(-1, 4, -1), -1);
    DUE.is("-14 of nothing: make(0, 3, -1)", x.make(0, 3, -1), -14);
    DUE.is("still nothing: weight(0)", x.weight(0), -11);
    x.make(0, 3, 2);
    x.make(1, 3, 2);
    x.make(2, 4, 2);
    x.make(3, 4, 2);
    DUE.is("ints: copy(0, 0, 1, 0, 2)", x.copy(0, 0, 1, 0, 2), 2);
    DUE.is("bytes: copy(2, 0, 3, 0, 2)", x.copy(2, 0, 3, 0, 2), 2);
    DUE.is("ints to bytes: copy(0, 0, 2, 0, 2)", x.copy(0, 0, 2, 0, 2), -12);
  }

  private static void madeRowsAreNought() {
    CandleMeadow x = ints();
    x.make(0, 3, 24);
    DUE.row(x, 0, new long[24]);
    x.keep(1, 4, 0);
    x.make(1, 4, 60);
    DUE.row(x, 1, new long[60]);
    x.keep(1, 1, 0);
    x.make(1, 3, 3);
    DUE.row(x, 1, 0, 0, 0);
    x.keep(1, 3, 0);
    x.make(1, 4, 30);
    x.make(1, 3, 30);
    DUE.row(x, 1, new long[30]);
  }

  // ---- promise 29: element

  private static void elementOfNoShelf() {
    CandleMeadow x = ints();
    int[] none = {-1, 8, LEAST, MOST};
    for (int d : none) {
      element(x, d, 0, NO_SHELF);
      element(x, d, -1, NO_SHELF);
      element(x, d, MOST, NO_SHELF);
    }
  }

  private static void elementOfNothingOrAPlot() {
    CandleMeadow x = new CandleMeadow();
    int[] places = {-1, 0, 1, 23, 60, LEAST, MOST};
    x.keep(7, 1, 0);
    for (int i : places) {
      element(x, 0, i, NO_PLACE);
      element(x, 7, i, NO_PLACE);
    }
    x.make(0, 3, 24);
    x.keep(0, 0, 0);
    x.make(7, 4, 24);
    x.keep(7, 1, 0);
    for (int i : places) {
      element(x, 0, i, NO_PLACE);
      element(x, 7, i, NO_PLACE);
    }
  }

  private static void elementOfAPlace() {
    CandleMeadow x = new CandleMeadow();
    int[] sizes = {0, 1, 2, 59, 60};
    for (int what = 3; what <= 4; what++) {
      for (int n : sizes) {
        x.make(0, what, n);
        int[] none = {-1, n, n + 1, 60, 61, LEAST, MOST};
        for (int i : none) {
          element(x, 0, i, NO_PLACE);
        }
        if (n > 0) {
          element(x, 0, 0, "0");
          element(x, 0, n - 1, "0");
        }
      }
    }
    x.keep(0, 4, 0);
    element(x, 0, 0, "-1");
    element(x, 0, 23, "-1");
    element(x, 0, 24, NO_PLACE);
    element(x, 0, -1, NO_PLACE);
  }

  // ---- promise 30: copy

  /** Shelf 0: the worths below; shelf 1: five ints; shelf 2: 24 bytes of -1; shelf 3: a plot. */
  private static CandleMeadow ints() {
    CandleMeadow x = new CandleMeadow();
    x.buyer(0, 1000, 0);
    for (int p = 0; p < 24; p++) {
      x.plot(p, 3, 200 - p);
    }
    x.keep(0, 3, 0);
    x.make(1, 3, 5);
    x.keep(2, 4, 0);
    x.keep(3, 1, 0);
    return x;
  }

  private static long[] worths() {
    long[] due = new long[24];
    for (int p = 0; p < 24; p++) {
      due[p] = (200 - p) * 95 / 100 * 10 - 5 * (p % 6 + p / 6);
    }
    return due;
  }

  private static void copy(CandleMeadow x, int d, int i, int e, int j, int n, int due) {
    DUE.is("copy(" + d + ", " + i + ", " + e + ", " + j + ", " + n + ")", x.copy(d, i, e, j, n), due);
  }

  private static void copyOfNoShelf() {
    CandleMeadow x = ints();
    int[] none = {-1, 8, LEAST, MOST};
    for (int d : none) {
      copy(x, d, 0, 0, 0, 1, -1);
      copy(x, 0, 0, d, 0, 1, -1);
      copy(x, d, 0, d, 0, 1, -1);
      copy(x, d, 0, 7, 0, 1, -1);
      copy(x, 7, 0, d, 0, -1, -1);
      copy(x, d, 0, 3, 0, 1, -1);
      copy(x, 0, -1, d, 0, 99, -1);
    }
    DUE.row(x, 0, worths());
  }

  private static void copyOfNothing() {
    CandleMeadow x = ints();
    copy(x, 7, 0, 0, 0, 1, -11);
    copy(x, 0, 0, 7, 0, 1, -11);
    copy(x, 7, 0, 7, 0, 0, -11);
    copy(x, 7, 0, 6, 0, 0, -11);
    copy(x, 7, 0, 3, 0, 1, -11);
    copy(x, 3, 0, 7, 0, 1, -11);
    copy(x, 7, -1, 2, 0, 1, -11);
    copy(x, 0, 0, 7, 0, -1, -11);
    DUE.row(x, 0, worths());
    DUE.is("still nothing: weight(7)", x.weight(7), -11);
  }

  private static void copyOfAnotherKind() {
    CandleMeadow x = ints();
    copy(x, 0, 0, 2, 0, 1, -12);
    copy(x, 2, 0, 0, 0, 1, -12);
    copy(x, 0, 0, 2, 0, 0, -12);
    copy(x, 3, 0, 0, 0, 1, -12);
    copy(x, 0, 0, 3, 0, 1, -12);
    copy(x, 2, 0, 3, 0, 1, -12);
    copy(x, 3, 0, 2, 0, 1, -12);
    copy(x, 3, 0, 3, 0, 0, -12);
    copy(x, 0, -1, 2, 0, 1, -12);
    copy(x, 0, 0, 2, 0, -1, -12);
    copy(x, 3, 0, 0, 24, 25, -12);
    DUE.row(x, 0, worths());
    DUE.is("weight(3)", x.weight(3), 310);
  }

  private static void copyOfPlaces() {
    CandleMeadow x = ints();
    copy(x, 0, 0, 1, 0, 5, 5);
    copy(x, 0, 0, 1, 0, 6, -13);
    copy(x, 0, 19, 1, 0, 5, 5);
    copy(x, 0, 20, 1, 0, 5, -13);
    copy(x, 0, 23, 1, 4, 1, 1);
    copy(x, 0, 24, 1, 4, 1, -13);
    copy(x, 0, 23, 1, 5, 1, -13);
    copy(x, 1, 4, 0, 23, 1, 1);
    copy(x, 1, 5, 0, 23, 1, -13);
    copy(x, 1, 4, 0, 24, 1, -13);
    copy(x, 1, 4, 0, 0, 2, -13);
    copy(x, 0, 0, 1, 1, 5, -13);
    copy(x, 0, 0, 0, 0, 24, 24);
    copy(x, 0, 0, 0, 0, 25, -13);
    copy(x, 0, MOST, 1, 0, 1, -13);
    copy(x, 0, 0, 1, MOST, 1, -13);
    copy(x, 0, 0, 1, 0, MOST, -13);
    copy(x, 0, 1, 1, 1, MOST, -13);
    copy(x, 0, MOST, 1, MOST, MOST, -13);
    copy(x, 0, MOST, 0, MOST, 2, -13);
    copy(x, 2, 23, 2, 0, 1, 1);
    copy(x, 2, 23, 2, 0, 2, -13);
    copy(x, 2, 0, 2, 23, 2, -13);
  }

  private static void copyBelowNought() {
    CandleMeadow x = ints();
    copy(x, 0, 0, 1, 0, -1, -13);
    copy(x, 0, -1, 1, 0, 1, -13);
    copy(x, 0, 0, 1, -1, 1, -13);
    copy(x, 0, -1, 1, 0, 0, -13);
    copy(x, 0, 0, 1, -1, 0, -13);
    copy(x, 0, LEAST, 1, 0, 1, -13);
    copy(x, 0, 0, 1, LEAST, 1, -13);
    copy(x, 0, 0, 1, 0, LEAST, -13);
    copy(x, 0, 5, 1, 5, -5, -13);
    copy(x, 0, LEAST, 1, LEAST, LEAST, -13);
    copy(x, 0, LEAST, 1, 0, MOST, -13);
    DUE.row(x, 0, worths());
    DUE.row(x, 1, 0, 0, 0, 0, 0);
  }

  /** "beyond either's end": place 24 of 24 is the end and may be told for nothing, place 25 not. */
  private static void copyOfNoElements() {
    CandleMeadow x = ints();
    x.make(4, 3, 0);
    x.make(5, 4, 0);
    copy(x, 0, 0, 1, 0, 0, 0);
    copy(x, 0, 24, 1, 5, 0, 0);
    copy(x, 0, 25, 1, 5, 0, -13);
    copy(x, 0, 24, 1, 6, 0, -13);
    copy(x, 0, MOST, 1, 0, 0, -13);
    copy(x, 4, 0, 4, 0, 0, 0);
    copy(x, 4, 0, 0, 24, 0, 0);
    copy(x, 0, 0, 4, 0, 1, -13);
    copy(x, 4, 0, 0, 0, 1, -13);
    copy(x, 4, 1, 0, 0, 0, -13);
    copy(x, 0, 0, 4, 1, 0, -13);
    copy(x, 5, 0, 2, 24, 0, 0);
    copy(x, 5, 0, 4, 0, 0, -12);
    DUE.row(x, 0, worths());
    DUE.row(x, 4);
  }

  private static void copyOfAll() {
    CandleMeadow x = ints();
    x.make(4, 3, 60);
    x.make(5, 3, 60);
    copy(x, 0, 0, 4, 0, 24, 24);
    copy(x, 0, 0, 4, 36, 24, 24);
    copy(x, 4, 0, 5, 0, 60, 60);
    copy(x, 4, 0, 5, 0, 61, -13);
    copy(x, 4, 1, 5, 0, 60, -13);
    copy(x, 4, 0, 5, 1, 60, -13);
    long[] due = new long[60];
    System.arraycopy(worths(), 0, due, 0, 24);
    System.arraycopy(worths(), 0, due, 36, 24);
    DUE.row(x, 5, due);
  }

  private static void copyAsTheyAllWereBefore() {
    for (int i = 0; i <= 4; i++) {
      for (int j = 0; j <= 4; j++) {
        for (int n = 0; n <= 5 - Math.max(i, j); n++) {
          CandleMeadow x = ints();
          x.copy(0, 0, 1, 0, 5);
          long[] due = java.util.Arrays.copyOf(worths(), 5);
          System.arraycopy(worths(), i, due, j, n);
          copy(x, 1, i, 1, j, n, n);
          DUE.row(x, 1, due);
        }
      }
    }
    CandleMeadow y = ints();
    y.candle(0, 1, 0);
    y.keep(2, 4, 0);
    copy(y, 2, 0, 2, 1, 23, 23);
    long[] due = new long[24];
    java.util.Arrays.fill(due, -1);
    due[0] = 0;
    due[1] = 0;
    DUE.row(y, 2, due);
    copy(y, 2, 1, 2, 0, 23, 23);
    due[1] = -1;
    DUE.row(y, 2, due);
  }

  private static void copyLeavesTheRest() {
    CandleMeadow x = ints();
    copy(x, 0, 3, 1, 2, 2, 2);
    long[] w = worths();
    DUE.row(x, 1, 0, 0, w[3], w[4], 0);
    DUE.row(x, 0, w);
    x.make(0, 3, 1);
    DUE.row(x, 1, 0, 0, w[3], w[4], 0);
    copy(x, 1, 2, 0, 0, 1, 1);
    DUE.row(x, 0, w[3]);
    x.keep(1, 0, 0);
    DUE.row(x, 0, w[3]);
  }

  // ---- promises 31 and 32: weight and toss

  private static void weightRefusals() {
    CandleMeadow x = new CandleMeadow();
    DUE.is("weight(-1)", x.weight(-1), -1);
    DUE.is("weight(8)", x.weight(8), -1);
    DUE.is("nothing: weight(0)", x.weight(0), -11);
    x.make(0, 3, 0);
    DUE.is("no ints: weight(0)", x.weight(0), -12);
    x.make(0, 4, 60);
    DUE.is("bytes: weight(0)", x.weight(0), -12);
    x.keep(0, 4, 0);
    DUE.is("whose plots are: weight(0)", x.weight(0), -12);
    x.keep(0, 1, 23);
    DUE.is("a plot: weight(0)", x.weight(0), 10);
    x.keep(0, 0, 0);
    DUE.is("nothing again: weight(0)", x.weight(0), -11);
  }

  private static void weightOfEachKind() {
    CandleMeadow x = new CandleMeadow();
    int[] grass = {0, 1, 199, 200};
    int[][] due = {{10, 11, 209, 210}, {60, 61, 259, 260}, {70, 72, 468, 470}, {110, 111, 309, 310}};
    for (int kind = 0; kind < 4; kind++) {
      for (int g = 0; g < 4; g++) {
        x.plot(23, kind, grass[g]);
        x.keep(7, 1, 23);
        DUE.is("kind " + kind + ", grass " + grass[g] + ": weight(7)", x.weight(7), due[kind][g]);
      }
    }
  }

  private static void tossRefusals() {
    CandleMeadow x = new CandleMeadow();
    DUE.is("toss(-1)", x.toss(-1), -1);
    DUE.is("toss(8)", x.toss(8), -1);
    DUE.is("nothing: toss(0)", x.toss(0), -11);
    x.make(0, 3, 0);
    DUE.is("no ints: toss(0)", x.toss(0), -12);
    x.make(0, 4, 60);
    DUE.is("bytes: toss(0)", x.toss(0), -12);
    x.keep(0, 1, 0);
    DUE.is("dry: toss(0)", x.toss(0), -15);
    x.keep(0, 0, 0);
    DUE.is("nothing again: toss(0)", x.toss(0), -11);
  }

  private static void tossOfEachKind() {
    int[] plots = {0, 1, 5, 6, 22, 23};
    for (int p : plots) {
      CandleMeadow x = new CandleMeadow();
      for (int kind = 0; kind < 4; kind++) {
        x.plot(p, kind, kind == 2 ? 0 : 200);
        x.keep(7 - kind, 1, p);
        DUE.is("plot " + p + " of kind " + kind + ": toss(" + (7 - kind) + ")", x.toss(7 - kind), kind == 0 ? -15 : p);
        DUE.is("again: toss(" + (7 - kind) + ")", x.toss(7 - kind), kind == 0 ? -15 : p);
      }
    }
  }
}
