import java.lang.reflect.Constructor;
import java.lang.reflect.Field;
import java.lang.reflect.Method;
import java.lang.reflect.Modifier;
import java.util.ArrayList;
import java.util.Arrays;
import java.util.List;
import java.util.TreeSet;

/** The class's face is the document's, and nothing else of it can be seen. */
public final class FaceTest {
  private static final String INDEX = "IndexOutOfBoundsException";
  private static final String ARGUMENT = "IllegalArgumentException";
  private static final String STATE = "IllegalStateException";
  private static final String MISSING = "NoSuchElementException";

  private static final List<String> DUE = List.of(
      face("int clear"),
      face("int addVariable int", ARGUMENT, STATE),
      face("int setDomain int int", INDEX, ARGUMENT),
      face("int addConstraint int int int int", ARGUMENT, STATE),
      face("int removeConstraint int", INDEX),
      face("int setWeight int int", INDEX, ARGUMENT),
      face("int setValue int int", INDEX, ARGUMENT),
      face("int count int", ARGUMENT),
      face("int constraint int int", INDEX, ARGUMENT),
      face("int variable int int", INDEX, ARGUMENT),
      face("int cost"),
      face("int bestCost"),
      face("int violation int boolean", INDEX),
      face("int mostBlamed", MISSING),
      face("int relief int", INDEX),
      face("int takeBest"),
      face("int setNeighborhood int", ARGUMENT),
      face("int setTenure int", ARGUMENT),
      face("int setPatience int", ARGUMENT),
      face("int setSeed int", ARGUMENT),
      face("int moves boolean"),
      face("int move int int", INDEX, ARGUMENT),
      face("int nextMove", MISSING),
      face("boolean isForbidden int int", INDEX, ARGUMENT),
      face("boolean isLocalOptimum"),
      face("int step", MISSING),
      face("int run int", ARGUMENT),
      face("int descend"),
      face("int restart"),
      face("int search int", ARGUMENT),
      face("int logSize"),
      face("int log int int", INDEX, ARGUMENT),
      face("double improvingShare", "ArithmeticException"),
      face("int optimum", STATE),
      face("int optima", STATE),
      face("int optimalValue int", INDEX, STATE),
      face("int worst", STATE),
      face("int unavoidable", STATE),
      face("int append char", ARGUMENT, STATE),
      face("int read", ARGUMENT, STATE),
      face("int errorPosition", MISSING),
      face("int describe int int", INDEX, MISSING),
      face("int undo", MISSING),
      face("int save"),
      face("int restore", STATE));

  public static void main(String[] args) {
    Class<?> type = TabuSolver.class;
    List<String> found = new ArrayList<>();
    for (Method method : type.getDeclaredMethods()) {
      if (!Modifier.isPrivate(method.getModifiers()) && !method.isSynthetic()) {
        found.add(signature(method));
        Checks.due(method.getName() + " is public", Modifier.PUBLIC, method.getModifiers());
      }
    }
    Checks.due("methods", new TreeSet<>(DUE), new TreeSet<>(found));
    Checks.due("the class is public and final", Modifier.PUBLIC | Modifier.FINAL, type.getModifiers());
    Checks.due("it has no package", "", type.getPackageName());
    Constructor<?>[] constructors = type.getDeclaredConstructors();
    Checks.due("constructors", 1, constructors.length);
    Checks.due("the constructor is public", Modifier.PUBLIC, constructors[0].getModifiers());
    Checks.due("it takes nothing", 0, constructors[0].getParameterCount());
    for (Field field : type.getDeclaredFields()) {
      Checks.due(field.getName() + " is private", true, Modifier.isPrivate(field.getModifiers()));
    }
    noPrivateMethodBearsAPublicName(type);
    Checks.finish("FaceTest");
  }

  private static void noPrivateMethodBearsAPublicName(Class<?> type) {
    List<String> names = DUE.stream().map(line -> line.split(" ")[1]).toList();
    List<Class<?>> all = new ArrayList<>(Arrays.asList(type.getDeclaredClasses()));
    all.add(type);
    for (Class<?> one : all) {
      for (Method method : one.getDeclaredMethods()) {
        boolean isPrivate = Modifier.isPrivate(method.getModifiers());
        Checks.due(one + "." + method.getName(), false, isPrivate && names.contains(method.getName()));
      }
    }
  }

  private static String face(String call, String... exceptions) {
    return call + " throws " + Arrays.asList(exceptions);
  }

  private static String signature(Method method) {
    StringBuilder call = new StringBuilder();
    call.append(method.getReturnType()).append(' ').append(method.getName());
    for (Class<?> parameter : method.getParameterTypes()) {
      call.append(' ').append(parameter);
    }
    List<String> exceptions = new ArrayList<>();
    for (Class<?> exception : method.getExceptionTypes()) {
      exceptions.add(exception.getSimpleName());
    }
    return call + " throws " + exceptions;
  }
}
