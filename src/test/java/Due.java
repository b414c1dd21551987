import java.lang.reflect.InvocationTargetException;
import java.lang.reflect.Method;
import java.util.Arrays;
import java.util.Comparator;

/** What the tests share: counting of wrong answers, the findings, and texts for THE TAPE. */
final class Due {
  static final long BEYOND = -1000000001L;
  static final long FULL = -1000000002L;
  static final long KIND = -1000000003L;
  static final long NONE = -1000000004L;
  static final long STATE = -1000000005L;
  static final long MISSING = -1000000006L;
  static final long SIZE = -1000000007L;

  private static int asked;
  private static int wrong;
  /** The test that runs, if runAll runs it. */
  private static String running = "";

  private Due() {}

  static void due(String call, long got, long want) {
    asked++;
    if (got != want) {
      wrong++;
      System.out.println(running + call + " answered " + got + ", due is " + want);
    }
  }

  static void due(String call, boolean holds) {
    due(call, holds ? 1 : 0, 1);
  }

  /**
   * Runs each method of a test that is named after a promise or after Terms, and ends it. A method
   * that throws, or that asks for no answer, is wrong.
   */
  static void runAll(Class<?> test) {
    Method[] methods = test.getDeclaredMethods();
    Arrays.sort(methods, Comparator.comparing(Method::getName));
    for (Method method : methods) {
      if (method.getName().matches("(promise|terms)[0-9].*")) {
        run(method);
      }
    }
    running = "";
    end(test.getSimpleName());
  }

  private static void run(Method method) {
    running = method.getName() + ": ";
    int askedBefore = asked;
    String threw = "";
    try {
      method.invoke(null);
    } catch (InvocationTargetException | IllegalAccessException e) {
      threw = e + ", " + e.getCause();
    }
    due("it threw " + threw, threw.isEmpty());
    due("it asks for an answer", asked > askedBefore + 1);
  }

  /** Ends the test: with 1 if an answer was wrong, or if none was asked for. */
  static void end(String test) {
    System.out.println(test + ": " + asked + " answers, " + wrong + " wrong");
    if (wrong != 0 || asked == 0) {
      System.exit(1);
    }
  }

  /** Puts a text on THE TAPE, four bytes at a time. */
  static void feed(ElderChest x, String text) {
    for (int at = 0; at < text.length(); at += 4) {
      int n = Math.min(4, text.length() - at);
      int bytes = 0;
      for (int i = 0; i < n; i++) {
        bytes = bytes << 8 | text.charAt(at + i) & 255;
      }
      x.feed(bytes, n);
    }
  }

  /** Wipes THE TAPE, feeds a text and reads it. */
  static int read(ElderChest x, String text) {
    x.wipe();
    feed(x, text);
    return x.text();
  }

  static ElderChest withElders(int... weights) {
    ElderChest x = new ElderChest();
    for (int weight : weights) {
      x.elder(weight);
    }
    return x;
  }

  static void giveKeys(ElderChest x, int elder, int... keys) {
    for (int key : keys) {
      x.key(elder, key, true);
    }
  }
}
