import java.lang.reflect.Method;
import java.util.Arrays;
import java.util.HashMap;
import java.util.Map;

/** One call by its name and its numbers, for an object of LifeLinks and for a Model alike. */
final class OneCall {
  // Looking for a method takes long, and tests make many calls.
  private static final Map<Class<?>, Map<String, Method>> METHODS = new HashMap<>();

  final String name;
  final int[] numbers;

  OneCall(String name, int... numbers) {
    this.name = name;
    this.numbers = numbers;
  }

  /** What the object answers. */
  long of(Object asked) {
    Object[] given = new Object[numbers.length];
    for (int k = 0; k < numbers.length; k++) {
      given[k] = numbers[k];
    }
    try {
      Object told = method(asked).invoke(asked, given);
      return ((Number) told).longValue();
    } catch (ReflectiveOperationException refused) {
      throw new IllegalStateException(this + " did not answer", refused);
    }
  }

  private Method method(Object asked) throws NoSuchMethodException {
    Map<String, Method> known = METHODS.computeIfAbsent(asked.getClass(), k -> new HashMap<>());
    Method method = known.get(name);
    if (method == null) {
      Class<?>[] kinds = new Class<?>[numbers.length];
      Arrays.fill(kinds, int.class);
      method = asked.getClass().getDeclaredMethod(name, kinds);
      known.put(name, method);
    }
    return method;
  }

  @Override
  public String toString() {
    String list = Arrays.toString(numbers);
    return name + "(" + list.substring(1, list.length() - 1) + ")";
  }
}
