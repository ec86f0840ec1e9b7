/** Compares answers with the ones that are due, prints each that differs, and ends the program accordingly. */
final class Due {
  private int calls = 0;
  private int wrong = 0;

  void is(String call, long got, long want) {
    calls++;
    if (got != want) {
      wrong++;
      System.out.println(call + " answered " + got + ", due is " + want);
    }
  }

  /** The answer of element as text, so that what it throws can be compared too. */
  static String element(CandleMeadow x, int d, int i) {
    try {
      return String.valueOf(x.element(d, i));
    } catch (IllegalArgumentException e) {
      return "throws." + e.getClass().getSimpleName();
    } catch (IllegalStateException e) {
      return "throws." + e.getClass().getSimpleName();
    }
  }

  void says(String call, String got, String want) {
    calls++;
    if (!got.equals(want)) {
      wrong++;
      System.out.println(call + " answered " + got + ", due is " + want);
    }
  }

  void row(CandleMeadow x, int d, long... want) {
    for (int i = 0; i < want.length; i++) {
      says("element(" + d + ", " + i + ")", element(x, d, i), String.valueOf(want[i]));
    }
    says("element(" + d + ", " + want.length + ")", element(x, d, want.length), "throws.IllegalStateException");
  }

  void end() {
    System.out.println(calls + " answers looked at, " + wrong + " not as due");
    if (wrong != 0 || calls == 0) {
      System.exit(1);
    }
  }
}
