import java.lang.reflect.InvocationTargetException;
import java.lang.reflect.Method;
import java.util.ArrayList;
import java.util.Comparator;
import java.util.List;
import java.util.Random;

/** Calls with any numbers at all, the far ends among them: none may throw. */
final class WildCallsTest {
  private static final int RUNS = 400;
  private static final int CALLS = 512;
  private static final int[] ENDS = {Integer.MIN_VALUE, Integer.MIN_VALUE + 1, -1000000001, -65, -2,
      -1, 0, 1, 2, 3, 4, 5, 7, 8, 9, 10, 11, 16, 23, 24, 25, 31, 32, 33, 39, 40, 41, 63, 64, 65, 119,
      120, 121, 1023, 1024, 1 << 24, 1 << 30, Integer.MAX_VALUE - 1, Integer.MAX_VALUE};

  public static void main(String[] args) throws IllegalAccessException {
    List<Method> methods = new ArrayList<>(List.of(ElderChest.class.getDeclaredMethods()));
    methods.removeIf(method -> (method.getModifiers() & 1) == 0);
    methods.sort(Comparator.comparing(Method::getName));
    for (int seed = 0; seed < RUNS; seed++) {
      Random random = new Random(seed);
      ElderChest x = new ElderChest();
      for (int i = 0; i < CALLS; i++) {
        if (i % 64 == 0 && random.nextBoolean()) {
          Due.read(x, random.nextBoolean() ? "may weigh 9" : "may least 2 of everyone");
        }
        call(methods.get(random.nextInt(methods.size())), x, random);
      }
    }
    Due.end("WildCallsTest");
  }

  private static void call(Method method, ElderChest x, Random random)
      throws IllegalAccessException {
    Object[] with = new Object[method.getParameterCount()];
    boolean small = random.nextBoolean();
    for (int i = 0; i < with.length; i++) {
      int number = small ? random.nextInt(4) : ENDS[random.nextInt(ENDS.length)];
      Class<?> type = method.getParameterTypes()[i];
      with[i] = type == boolean.class ? random.nextBoolean()
          : type == long.class ? Long.valueOf(random.nextLong()) : (Object) number;
    }
    boolean threw = false;
    try {
      method.invoke(x, with);
    } catch (InvocationTargetException e) {
      threw = true;
      System.out.println(e.getCause());
    }
    Due.due(method + " throws with " + List.of(with), !threw);
  }
}
