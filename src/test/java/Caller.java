import java.lang.reflect.InvocationTargetException;
import java.lang.reflect.Method;
import java.util.Map;
import java.util.TreeMap;

/** Calls the program's public methods by their names. */
final class Caller {
  private static final Map<String, Method> METHODS = new TreeMap<>();

  static {
    for (Method m : TurnedLand.class.getDeclaredMethods()) {
      if (java.lang.reflect.Modifier.isPublic(m.getModifiers())) METHODS.put(m.getName(), m);
    }
  }

  static String[] names() {
    return METHODS.keySet().toArray(new String[0]);
  }

  static Class<?>[] kinds(String name) {
    return METHODS.get(name).getParameterTypes();
  }

  static long call(TurnedLand land, String name, long[] args) {
    Class<?>[] kinds = kinds(name);
    Object[] given = new Object[args.length];
    for (int i = 0; i < args.length; i++) {
      given[i] = kinds[i] == long.class ? (Object) args[i] : (Object) (int) args[i];
    }
    try {
      return (Integer) METHODS.get(name).invoke(land, given);
    } catch (InvocationTargetException thrown) {
      throw new IllegalStateException(name + " threw", thrown.getCause());
    } catch (IllegalAccessException e) {
      throw new IllegalStateException(e);
    }
  }
}
