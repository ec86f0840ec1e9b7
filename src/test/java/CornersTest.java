import java.lang.reflect.InvocationTargetException;
import java.lang.reflect.Method;
import java.lang.reflect.Modifier;
import java.util.ArrayList;
import java.util.Arrays;
import java.util.Comparator;
import java.util.List;

/**
 * Every call of the face with every combination of edge values as its arguments, in a new, a busy and a full meadow,
 * compared with the plain model: so each refusal meets each other one, and nothing but the document's exceptions is
 * ever thrown.
 */
public final class CornersTest {
  private static final Due DUE = new Due();
  private static final int LEAST = Integer.MIN_VALUE;
  private static final int MOST = Integer.MAX_VALUE;
  /** Each limit of the document, with its neighbours. */
  private static final int[] EDGES = {LEAST, -2, -1, 0, 1, 2, 3, 4, 5, 6, 7, 8, 9, 10, 22, 23, 24, 29, 30, 31, 50, 51,
    59, 60, 61, 99, 100, 101, 199, 200, 201, 99999, 100000, 100001, MOST};
  private static final int[] SHELVES = {LEAST, -1, 0, 1, 2, 3, 4, 5, 6, 7, 8, MOST};
  private static final int[] PLACES = {LEAST, -1, 0, 1, 4, 5, 6, 23, 24, 25, MOST};
  private static final int[] BOOLEANS = {0, 1};
  /** An object answers for 512 calls; the longest run that makes one has fewer than the rest. */
  private static final int CALLS_EACH = 300;

  private static final String[] BUSY = {"plot 0 0 50", "plot 1 1 60", "plot 2 3 70", "plot 3 2 80", "plot 4 0 90",
    "plot 5 1 100", "plot 23 3 200", "buyer 0 200 0", "buyer 3 300 5", "buyer 6 400 10", "buyer 9 500 15",
    "surety 0 1", "surety 2 3", "waits 1 1", "candle 0 9 0", "candle 1 20 1", "candle 2 14 3", "candle 7 4 0",
    "rain 4 1", "rain 30 1", "day 3", "cut 2", "purse 3 10", "step 7", "keep 1 1 5", "keep 2 3 2", "keep 3 4 0",
    "make 4 3 5", "copy 2 0 4 0 5", "make 5 4 5", "copy 3 0 5 0 5", "make 6 3 0", "keep 7 1 4"};

  private final Method[] face;
  private CandleMeadow x;
  private Model m;
  private int calls;

  private CornersTest() {
    List<Method> all = new ArrayList<>();
    for (Method method : CandleMeadow.class.getDeclaredMethods()) {
      if (Modifier.isPublic(method.getModifiers())) {
        all.add(method);
      }
    }
    all.sort(Comparator.comparing(Method::getName));
    face = all.toArray(new Method[0]);
  }

  public static void main(String[] args) throws ReflectiveOperationException {
    CornersTest test = new CornersTest();
    test.corners("new", new String[0]);
    test.corners("busy", BUSY);
    test.corners("full", full());
    DUE.is("calls of the face", test.face.length, 31);
    DUE.end();
  }

  /** Ten buyers, seven plots that stand, full shelves, the last day. */
  private static String[] full() {
    List<String> run = new ArrayList<>();
    for (int b = 0; b < 10; b++) {
      run.add("buyer " + 5 * b + " " + (1000 + b) + " " + 2 * b);
    }
    for (int p = 0; p < 7; p++) {
      run.add("plot " + 3 * p + " 3 " + (100 + p));
      run.add("candle " + 3 * p + " " + (10 + p) + " " + p);
    }
    for (int d = 0; d < 8; d++) {
      run.add("make " + d + " " + (3 + d % 2) + " 60");
    }
    run.add("keep 5 1 3");
    run.add("day 30");
    return run.toArray(new String[0]);
  }

  private void corners(String name, String[] run) throws ReflectiveOperationException {
    for (Method method : face) {
      Method model = Model.class.getDeclaredMethod(method.getName(), method.getParameterTypes());
      int[][] values = values(method);
      int[] at = new int[values.length];
      calls = CALLS_EACH;
      do {
        if (calls >= CALLS_EACH) {
          make(run);
        }
        Object[] args = arguments(method, values, at);
        String got = answer(method, x, args);
        DUE.says(name + ": " + method.getName() + Arrays.toString(args), got, answer(model, m, args));
        // A refused call changes nothing, and the next one may follow it; else the next one has a meadow of its own.
        calls = got.startsWith("-") || got.startsWith("throws") ? calls + 1 : CALLS_EACH;
      } while (next(values, at));
    }
  }

  private static int[][] values(Method method) {
    Class<?>[] types = method.getParameterTypes();
    int[][] values = new int[types.length][];
    for (int i = 0; i < types.length; i++) {
      boolean shelf = types.length == 5 && (i == 0 || i == 2);
      int[] numbers = types.length < 5 ? EDGES : shelf ? SHELVES : PLACES;
      values[i] = types[i] == boolean.class ? BOOLEANS : numbers;
    }
    return values;
  }

  private static Object[] arguments(Method method, int[][] values, int[] at) {
    Object[] args = new Object[at.length];
    for (int i = 0; i < at.length; i++) {
      args[i] = argument(method, i, values[i][at[i]]);
    }
    return args;
  }

  private static Object argument(Method method, int i, int value) {
    if (method.getParameterTypes()[i] == boolean.class) {
      return value == 1;
    }
    return value;
  }

  /** Counts on to the next combination; false behind the last one. */
  private static boolean next(int[][] values, int[] at) {
    for (int i = at.length - 1; i >= 0; i--) {
      at[i]++;
      if (at[i] < values[i].length) {
        return true;
      }
      at[i] = 0;
    }
    return false;
  }

  private void make(String[] run) throws ReflectiveOperationException {
    x = new CandleMeadow();
    m = new Model();
    calls = 0;
    for (String told : run) {
      String[] words = told.split(" ");
      Method method = named(words[0]);
      Object[] args = new Object[words.length - 1];
      for (int i = 0; i < args.length; i++) {
        args[i] = argument(method, i, Integer.parseInt(words[i + 1]));
      }
      method.invoke(x, args);
      Model.class.getDeclaredMethod(words[0], method.getParameterTypes()).invoke(m, args);
    }
  }

  private Method named(String name) {
    for (Method method : face) {
      if (method.getName().equals(name)) {
        return method;
      }
    }
    throw new IllegalArgumentException(name);
  }

  private static String answer(Method method, Object object, Object[] args) throws ReflectiveOperationException {
    try {
      return String.valueOf(method.invoke(object, args));
    } catch (InvocationTargetException e) {
      return "throws." + e.getCause().getClass().getSimpleName();
    }
  }
}
