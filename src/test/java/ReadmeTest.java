import java.io.IOException;
import java.lang.reflect.Method;
import java.lang.reflect.Modifier;
import java.nio.file.Files;
import java.nio.file.Path;

/** README.md names each call, and its examples answer what they say; .ci/run starts it in the project. */
public final class ReadmeTest {
  public static void main(String[] args) throws IOException {
    eachCallIsNamed(Files.readString(Path.of("README.md")));
    theExampleHolds();
    theTextHolds();
    Checks.finish("ReadmeTest");
  }

  private static void eachCallIsNamed(String page) {
    for (Method method : TabuSolver.class.getDeclaredMethods()) {
      if (Modifier.isPublic(method.getModifiers())) {
        Checks.due(method.getName() + " is named", true, page.contains("`" + method.getName() + "`"));
      }
    }
  }

  private static void theExampleHolds() {
    TabuSolver solver = Checks.solver(3, 3);
    solver.addConstraint(0, 0b11, 0, 2);
    Checks.due("before", 2, solver.cost());
    Checks.due("made", 1, solver.run(10));
    Checks.due("cost", 0, solver.cost());
    Checks.due("least", 0, solver.optimum());
    Checks.due("ways", 6, solver.optima());
  }

  private static void theTextHolds() {
    TabuSolver solver = new TabuSolver();
    Checks.type(solver, "v3;v3;a01:0*2;");
    Checks.due("entries", 3, solver.read());
    Checks.due("variables", 2, solver.count(0));
    Checks.due("its text", "a01:0*2;", Checks.description(solver, 0));
  }
}
