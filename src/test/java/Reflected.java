import java.lang.reflect.InvocationTargetException;
import java.lang.reflect.Method;

/** Calls by name, so that two classes can be asked the same. */
final class Reflected {
  private Reflected() {
  }

  /** The answer, or the class of the exception. */
  static Object answer(Object target, String name, Object... arguments) {
    for (Method method : target.getClass().getMethods()) {
      if (method.getName().equals(name) && method.getDeclaringClass() == target.getClass()) {
        return answer(target, method, arguments);
      }
    }
    throw new AssertionError("no method " + name);
  }

  private static Object answer(Object target, Method method, Object... arguments) {
    try {
      return method.invoke(target, arguments);
    } catch (InvocationTargetException e) {
      return e.getCause().getClass();
    } catch (IllegalAccessException e) {
      throw new AssertionError(e);
    }
  }
}
