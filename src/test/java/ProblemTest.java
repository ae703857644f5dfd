import java.util.NoSuchElementException;

/** Promises 1 to 11: variables and constraints. */
public final class ProblemTest {
  public static void main(String[] args) {
    newObject();
    clearing();
    clearLeavesInputErrorAndSaved();
    addingVariables();
    settingDomains();
    addingConstraints();
    removingConstraints();
    settingWeights();
    settingValues();
    counting();
    askingForConstraints();
    askingForVariables();
    searchBeginsWithEachChange();
    Checks.finish("ProblemTest");
  }

  private static void newObject() {
    TabuSolver x = new TabuSolver();
    Checks.due("new count(0)", 0, x.count(0));
    Checks.due("new count(1)", 0, x.count(1));
    Checks.due("new count(2)", 0, x.count(2));
    Checks.due("new count(3)", 1, x.count(3));
    Checks.due("new cost", 0, x.cost());
    Checks.due("new bestCost", 0, x.bestCost());
    Checks.due("new moves", 0, x.moves(false));
    Checks.due("new isLocalOptimum", true, x.isLocalOptimum());
    Checks.due("new iteration", 0, x.search(0));
    Checks.due("new idle steps", 0, x.search(1));
    Checks.due("new restarts", 0, x.search(2));
    Checks.due("new seed", 1, x.search(3));
    Checks.due("new best iteration", 0, x.search(4));
    Checks.due("new logSize", 0, x.logSize());
    Checks.due("new neighborhood", 15, x.setNeighborhood(15));
    Checks.due("new tenure", 3, x.setTenure(3));
    Checks.due("new patience", 20, x.setPatience(20));
    Checks.due("new input", 1, x.append('v'));
    Checks.fails("new errorPosition", NoSuchElementException.class, x::errorPosition);
    Checks.fails("new undo", NoSuchElementException.class, x::undo);
    Checks.fails("new restore", IllegalStateException.class, x::restore);
  }

  private static void clearing() {
    TabuSolver x = Checks.solver(3, 4);
    x.addConstraint(0, 3, 0, 1);
    x.setNeighborhood(1);
    x.setTenure(7);
    x.setPatience(9);
    x.setSeed(11);
    x.step();
    x.restart();
    Checks.due("clear", 2, x.clear());
    Checks.due("variables after clear", 0, x.count(0));
    Checks.due("constraints after clear", 0, x.count(1));
    Checks.due("iteration after clear", 0, x.search(0));
    Checks.due("restarts after clear", 0, x.search(2));
    Checks.due("best cost after clear", 0, x.bestCost());
    Checks.due("log after clear", 0, x.logSize());
    Checks.due("neighborhood after clear", 15, x.setNeighborhood(15));
    Checks.due("tenure after clear", 3, x.setTenure(3));
    Checks.due("patience after clear", 20, x.setPatience(20));
    Checks.due("seed after clear", 1, x.setSeed(1));
    Checks.fails("undo after clear", NoSuchElementException.class, x::undo);
    Checks.due("clear of nothing", 0, x.clear());
    Checks.due("first variable after clear", 0, x.addVariable(5));
    x.setValue(0, 4);
    x.clear();
    x.addVariable(5);
    Checks.due("its value", 0, x.variable(0, 1));
  }

  private static void clearLeavesInputErrorAndSaved() {
    TabuSolver x = Checks.solver(3, 4);
    Checks.type(x, "w");
    Checks.fails("read of w", IllegalArgumentException.class, x::read);
    x.append('v');
    x.save();
    x.clear();
    Checks.due("input after clear", 2, x.append('2'));
    Checks.due("error position after clear", 0, x.errorPosition());
    Checks.due("restore after clear", 2, x.restore());
    Checks.due("restored size", 4, x.variable(1, 0));
  }

  private static void addingVariables() {
    TabuSolver x = new TabuSolver();
    Checks.fails("addVariable(1)", IllegalArgumentException.class, () -> x.addVariable(1));
    Checks.fails("addVariable(9)", IllegalArgumentException.class, () -> x.addVariable(9));
    Checks.fails("addVariable(-2)", IllegalArgumentException.class, () -> x.addVariable(-2));
    Checks.due("no variable was added", 0, x.count(0));
    for (int v = 0; v < 10; v++) {
      Checks.due("addVariable", v, x.addVariable(v % 7 + 2));
    }
    Checks.due("size of 0", 2, x.variable(0, 0));
    Checks.due("size of 6", 8, x.variable(6, 0));
    Checks.due("size of 9", 4, x.variable(9, 0));
    Checks.due("values", "0000000000", Checks.values(x));
    Checks.fails("eleventh variable", IllegalStateException.class, () -> x.addVariable(2));
    Checks.fails("eleventh variable, wrong size", IllegalArgumentException.class, () -> x.addVariable(1));
    Checks.due("ten variables", 10, x.count(0));
  }

  private static void settingDomains() {
    TabuSolver x = Checks.withValues(Checks.solver(8, 8), 7, 3);
    Checks.due("setDomain to less", 8, x.setDomain(0, 5));
    Checks.due("value becomes the last one", 4, x.variable(0, 1));
    Checks.due("setDomain that keeps the value", 8, x.setDomain(1, 4));
    Checks.due("the value stays", 3, x.variable(1, 1));
    Checks.due("setDomain to the same", 4, x.setDomain(1, 4));
    Checks.due("setDomain to more", 5, x.setDomain(0, 8));
    Checks.due("the value stays then", 4, x.variable(0, 1));
    Checks.fails("setDomain(2, 3)", IndexOutOfBoundsException.class, () -> x.setDomain(2, 3));
    Checks.fails("setDomain(-1, 3)", IndexOutOfBoundsException.class, () -> x.setDomain(-1, 3));
    Checks.fails("setDomain(2, 9)", IndexOutOfBoundsException.class, () -> x.setDomain(2, 9));
    Checks.fails("setDomain(0, 9)", IllegalArgumentException.class, () -> x.setDomain(0, 9));
    Checks.fails("setDomain(0, 1)", IllegalArgumentException.class, () -> x.setDomain(0, 1));
    Checks.due("size after refusals", 8, x.variable(0, 0));
  }

  private static void addingConstraints() {
    TabuSolver x = Checks.solver(3, 3, 3);
    Class<IllegalArgumentException> refused = IllegalArgumentException.class;
    Checks.fails("kind -1", refused, () -> x.addConstraint(-1, 3, 0, 1));
    Checks.fails("kind 6", refused, () -> x.addConstraint(6, 3, 0, 1));
    Checks.fails("number 51", refused, () -> x.addConstraint(0, 3, 51, 1));
    Checks.fails("number -51", refused, () -> x.addConstraint(0, 3, -51, 1));
    Checks.fails("weight 0", refused, () -> x.addConstraint(0, 3, 0, 0));
    Checks.fails("weight 10", refused, () -> x.addConstraint(0, 3, 0, 10));
    Checks.fails("no members", refused, () -> x.addConstraint(0, 0, 0, 1));
    Checks.fails("one member", refused, () -> x.addConstraint(0, 4, 0, 1));
    Checks.fails("no variable 3", refused, () -> x.addConstraint(0, 9, 0, 1));
    Checks.fails("no variable 31", refused, () -> x.addConstraint(0, Integer.MIN_VALUE + 3, 0, 1));
    Checks.fails("members -1", refused, () -> x.addConstraint(0, -1, 0, 1));
    Checks.due("no constraint was added", 0, x.count(1));
    for (int c = 0; c < 20; c++) {
      Checks.due("addConstraint", c, x.addConstraint(c % 6, c % 2 == 0 ? 7 : 5, c % 2 == 0 ? 50 : -50, c % 9 + 1));
    }
    Checks.fails("21st constraint", IllegalStateException.class, () -> x.addConstraint(0, 3, 0, 1));
    Checks.fails("21st constraint, wrong kind", refused, () -> x.addConstraint(6, 3, 0, 1));
    Checks.fails("21st constraint, wrong member", refused, () -> x.addConstraint(0, 9, 0, 1));
    Checks.due("twenty constraints", 20, x.count(1));
    TabuSolver y = Checks.solver(2, 2, 2, 2, 2, 2, 2, 2, 2, 2);
    Checks.due("ten members", 0, y.addConstraint(0, 1023, 0, 9));
    Checks.due("45 pairs", 405, y.cost());
    Checks.fails("no variable 10", refused, () -> y.addConstraint(0, 1025, 0, 9));
  }

  private static void removingConstraints() {
    TabuSolver x = Checks.solver(3, 3, 3);
    x.addConstraint(0, 3, 1, 4);
    x.addConstraint(1, 5, 2, 5);
    x.addConstraint(2, 6, 3, 6);
    x.addConstraint(3, 7, 4, 7);
    Checks.due("removeConstraint(1)", 3, x.removeConstraint(1));
    Checks.due("the first one stays", "a01:1*4;", Checks.description(x, 0));
    Checks.due("the third one is second", "c12:3*6;", Checks.description(x, 1));
    Checks.due("the fourth one is third", "d012:4*7;", Checks.description(x, 2));
    Checks.fails("removeConstraint(3)", IndexOutOfBoundsException.class, () -> x.removeConstraint(3));
    Checks.fails("removeConstraint(-1)", IndexOutOfBoundsException.class, () -> x.removeConstraint(-1));
    Checks.due("remove the last one", 2, x.removeConstraint(2));
    Checks.due("remove", 1, x.removeConstraint(0));
    Checks.due("remove all", 0, x.removeConstraint(0));
    Checks.due("cost without constraints", 0, x.cost());
    Checks.due("conflict without constraints", "0,0", x.variable(0, 3) + "," + x.variable(0, 4));
    Checks.due("violated ones without constraints", 0, x.count(2));
    for (int c = 0; c < 20; c++) {
      x.addConstraint(2, 3, c + 1, 1);
    }
    Checks.due("cost of twenty", 210, x.cost());
    Checks.due("violated ones of twenty", 20, x.count(2));
    Checks.due("conflict of twenty", "210,20", x.variable(0, 3) + "," + x.variable(0, 4));
    Checks.due("remove one of twenty", 19, x.removeConstraint(3));
    Checks.due("the last one of 19", 20, x.constraint(18, 2));
    Checks.due("cost of 19", 206, x.cost());
  }

  private static void settingWeights() {
    TabuSolver x = Checks.solver(3, 3);
    x.addConstraint(0, 3, 0, 4);
    Checks.due("setWeight", 4, x.setWeight(0, 9));
    Checks.due("cost then", 9, x.cost());
    Checks.due("setWeight again", 9, x.setWeight(0, 1));
    Checks.fails("setWeight(1, 1)", IndexOutOfBoundsException.class, () -> x.setWeight(1, 1));
    Checks.fails("setWeight(1, 0)", IndexOutOfBoundsException.class, () -> x.setWeight(1, 0));
    Checks.fails("setWeight(-1, 1)", IndexOutOfBoundsException.class, () -> x.setWeight(-1, 1));
    Checks.fails("setWeight(0, 0)", IllegalArgumentException.class, () -> x.setWeight(0, 0));
    Checks.fails("setWeight(0, 10)", IllegalArgumentException.class, () -> x.setWeight(0, 10));
    Checks.due("weight after refusals", 1, x.constraint(0, 3));
  }

  private static void settingValues() {
    TabuSolver x = Checks.solver(3, 2);
    Checks.due("setValue", 0, x.setValue(0, 2));
    Checks.due("setValue again", 2, x.setValue(0, 1));
    Checks.due("values", "10", Checks.values(x));
    Checks.due("best values", "10", Checks.bestValues(x));
    Checks.fails("setValue(2, 0)", IndexOutOfBoundsException.class, () -> x.setValue(2, 0));
    Checks.fails("setValue(2, 9)", IndexOutOfBoundsException.class, () -> x.setValue(2, 9));
    Checks.fails("setValue(-1, 0)", IndexOutOfBoundsException.class, () -> x.setValue(-1, 0));
    Checks.fails("setValue(1, 2)", IllegalArgumentException.class, () -> x.setValue(1, 2));
    Checks.fails("setValue(1, -1)", IllegalArgumentException.class, () -> x.setValue(1, -1));
    Checks.due("values after refusals", "10", Checks.values(x));
    Checks.due("setValue is no change", 1, x.undo());
  }

  private static void counting() {
    TabuSolver x = Checks.solver(3, 4, 5);
    x.addConstraint(0, 7, 0, 1);
    x.addConstraint(1, 7, 0, 1);
    Checks.due("count(0)", 3, x.count(0));
    Checks.due("count(1)", 2, x.count(1));
    Checks.due("count(2)", 1, x.count(2));
    Checks.due("count(3)", 60, x.count(3));
    x.setValue(0, 1);
    Checks.due("count(2) of two", 2, x.count(2));
    Checks.fails("count(4)", IllegalArgumentException.class, () -> x.count(4));
    Checks.fails("count(-1)", IllegalArgumentException.class, () -> x.count(-1));
    Checks.due("all combinations", 1 << 30, Checks.solver(8, 8, 8, 8, 8, 8, 8, 8, 8, 8).count(3));
  }

  private static void askingForConstraints() {
    TabuSolver x = Checks.solver(3, 4, 5);
    x.addConstraint(5, 6, -7, 8);
    Checks.due("kind", 5, x.constraint(0, 0));
    Checks.due("members", 6, x.constraint(0, 1));
    Checks.due("number", -7, x.constraint(0, 2));
    Checks.due("weight", 8, x.constraint(0, 3));
    Checks.fails("constraint(0, 4)", IllegalArgumentException.class, () -> x.constraint(0, 4));
    Checks.fails("constraint(0, -1)", IllegalArgumentException.class, () -> x.constraint(0, -1));
    Checks.fails("constraint(1, 0)", IndexOutOfBoundsException.class, () -> x.constraint(1, 0));
    Checks.fails("constraint(-1, 0)", IndexOutOfBoundsException.class, () -> x.constraint(-1, 0));
    Checks.fails("constraint(1, 4)", IndexOutOfBoundsException.class, () -> x.constraint(1, 4));
  }

  private static void askingForVariables() {
    TabuSolver x = Checks.withValues(Checks.solver(3, 4, 5), 2, 2, 2);
    x.addConstraint(0, 3, 0, 2);
    x.addConstraint(2, 6, 0, 3);
    x.step();
    Checks.due("size", 5, x.variable(2, 0));
    Checks.due("values after a step", "202", Checks.values(x));
    Checks.due("best values after a step", "202", Checks.bestValues(x));
    Checks.due("conflict of 0", 0, x.variable(0, 3));
    Checks.due("conflict of 1", 6, x.variable(1, 3));
    x.setValue(1, 2);
    Checks.due("conflict of 0", 2, x.variable(0, 3));
    Checks.due("conflict of 1", 14, x.variable(1, 3));
    Checks.due("conflict of 2", 12, x.variable(2, 3));
    Checks.due("constraints of 0", 1, x.variable(0, 4));
    Checks.due("constraints of 1", 2, x.variable(1, 4));
    x.restart();
    Checks.due("best value after a restart", "222", Checks.bestValues(x));
    Checks.fails("variable(3, 0)", IndexOutOfBoundsException.class, () -> x.variable(3, 0));
    Checks.fails("variable(-1, 0)", IndexOutOfBoundsException.class, () -> x.variable(-1, 0));
    Checks.fails("variable(3, 5)", IndexOutOfBoundsException.class, () -> x.variable(3, 5));
    Checks.fails("variable(0, 5)", IllegalArgumentException.class, () -> x.variable(0, 5));
    Checks.fails("variable(0, -1)", IllegalArgumentException.class, () -> x.variable(0, -1));
  }

  private interface Change {
    void make(TabuSolver x);
  }

  private static void searchBeginsWithEachChange() {
    begins("addVariable", x -> x.addVariable(2));
    begins("setDomain to the same", x -> x.setDomain(0, 3));
    begins("addConstraint", x -> x.addConstraint(0, 3, 0, 1));
    begins("removeConstraint", x -> x.removeConstraint(0));
    begins("setWeight to the same", x -> x.setWeight(0, 2));
    begins("setValue to the same", x -> x.setValue(0, x.variable(0, 1)));
    begins("read", x -> {
      Checks.type(x, "v2;");
      x.read();
    });
    begins("undo", TabuSolver::undo);
    begins("restore", x -> {
      x.save();
      x.restore();
    });
  }

  private static void begins(String name, Change change) {
    TabuSolver x = searched();
    change.make(x);
    Checks.due(name + " begins: iteration", 0, x.search(0));
    Checks.due(name + " begins: idle steps", 0, x.search(1));
    Checks.due(name + " begins: restarts", 0, x.search(2));
    Checks.due(name + " begins: best iteration", 0, x.search(4));
    Checks.due(name + " begins: log", 0, x.logSize());
    Checks.due(name + " begins: best cost", x.cost(), x.bestCost());
    Checks.due(name + " begins: best values", Checks.values(x), Checks.bestValues(x));
    Checks.due(name + " begins: nothing is forbidden", 0, x.moves(true));
  }

  private static TabuSolver searched() {
    TabuSolver x = Checks.solver(3, 3, 3);
    x.addConstraint(2, 7, 5, 2);
    x.addConstraint(0, 7, 0, 2);
    x.step();
    x.restart();
    x.step();
    x.step();
    x.step();
    Checks.due("there was a search", true, x.search(0) == 4 && x.logSize() == 4 && x.search(2) == 1);
    return x;
  }
}
