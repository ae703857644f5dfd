import java.util.NoSuchElementException;

/** Promises 12 to 17: costs, violations, blame, relief and the best values. */
public final class CostTest {
  public static void main(String[] args) {
    differentCountsPairs();
    atMostCountsWhatIsOver();
    equalCountsTheDistance();
    ascendingCountsFalls();
    countCountsZeros();
    apartCountsNearPairs();
    costAddsUp();
    bestCost();
    violationOfBest();
    mostBlamed();
    relief();
    takeBest();
    Checks.finish("CostTest");
  }

  private static int violation(int kind, int members, int number, int... values) {
    TabuSolver x = Checks.withValues(Checks.solver(8, 8, 8, 8, 8), values);
    x.addConstraint(kind, members, number, 1);
    return x.violation(0, false);
  }

  private static void differentCountsPairs() {
    Checks.due("all equal", 10, violation(0, 31, 0, 3, 3, 3, 3, 3));
    Checks.due("a pair and a triple", 4, violation(0, 31, 0, 3, 4, 3, 4, 3));
    Checks.due("all different", 0, violation(0, 31, 0, 1, 2, 3, 4, 5));
    Checks.due("the number does not matter", 1, violation(0, 31, 9, 1, 2, 3, 4, 4));
    Checks.due("others do not matter", 0, violation(0, 24, 0, 3, 3, 3, 3, 4));
  }

  private static void atMostCountsWhatIsOver() {
    Checks.due("less", 0, violation(1, 31, 16, 1, 2, 3, 4, 5));
    Checks.due("equal", 0, violation(1, 31, 15, 1, 2, 3, 4, 5));
    Checks.due("more", 1, violation(1, 31, 14, 1, 2, 3, 4, 5));
    Checks.due("negative number", 57, violation(1, 12, -50, 1, 2, 3, 4, 5));
  }

  private static void equalCountsTheDistance() {
    Checks.due("less", 35, violation(2, 31, 50, 1, 2, 3, 4, 5));
    Checks.due("equal", 0, violation(2, 31, 15, 1, 2, 3, 4, 5));
    Checks.due("more", 8, violation(2, 17, -2, 1, 2, 3, 4, 5));
  }

  private static void ascendingCountsFalls() {
    Checks.due("equal ones, number 0", 0, violation(3, 31, 0, 3, 3, 3, 3, 3));
    Checks.due("equal ones, number 1", 4, violation(3, 31, 1, 3, 3, 3, 3, 3));
    Checks.due("the value before, not the greatest one", 1, violation(3, 31, 1, 5, 1, 2, 3, 4));
    Checks.due("by at least 2", 2, violation(3, 31, 2, 0, 2, 3, 5, 6));
    Checks.due("falls are allowed", 1, violation(3, 31, -2, 7, 5, 3, 0, 1));
    Checks.due("neighbors among the members", 1, violation(3, 21, 0, 4, 0, 5, 0, 3));
  }

  private static void countCountsZeros() {
    Checks.due("as many", 0, violation(4, 31, 2, 0, 2, 3, 0, 5));
    Checks.due("too few", 1, violation(4, 30, 2, 0, 2, 3, 0, 5));
    Checks.due("too many", 2, violation(4, 31, 0, 0, 2, 3, 0, 5));
    Checks.due("negative number", 3, violation(4, 7, -2, 0, 2, 3, 0, 5));
  }

  private static void apartCountsNearPairs() {
    Checks.due("number 0", 0, violation(5, 31, 0, 3, 3, 3, 3, 3));
    Checks.due("number 1", 1, violation(5, 31, 1, 3, 3, 4, 5, 6));
    Checks.due("number 2", 4, violation(5, 31, 2, 3, 3, 4, 5, 7));
    Checks.due("in either order", 1, violation(5, 9, 4, 7, 0, 0, 4, 0));
    Checks.due("just apart", 0, violation(5, 9, 3, 7, 0, 0, 4, 0));
    Checks.due("negative number", 0, violation(5, 31, -1, 3, 3, 3, 3, 3));
  }

  private static TabuSolver sample() {
    TabuSolver x = Checks.withValues(Checks.solver(4, 4, 4), 3, 3, 1);
    x.addConstraint(0, 3, 0, 5);
    x.addConstraint(1, 7, 2, 2);
    x.addConstraint(4, 6, 0, 9);
    return x;
  }

  private static void costAddsUp() {
    TabuSolver x = sample();
    Checks.due("cost", 15, x.cost());
    x.setWeight(1, 9);
    Checks.due("cost with another weight", 50, x.cost());
    x.removeConstraint(0);
    Checks.due("cost without the first", 45, x.cost());
    Checks.fails("violation(2, false)", IndexOutOfBoundsException.class, () -> x.violation(2, false));
    Checks.fails("violation(-1, true)", IndexOutOfBoundsException.class, () -> x.violation(-1, true));
    Checks.due("violation(0, false)", 5, x.violation(0, false));
  }

  private static void bestCost() {
    TabuSolver x = sample();
    Checks.due("best cost at first", 15, x.bestCost());
    x.step();
    Checks.due("best cost after a step", 4, x.bestCost());
    Checks.due("cost after a step", 4, x.cost());
    x.setNeighborhood(4);
    x.step();
    x.step();
    int low = x.bestCost();
    x.setSeed(0);
    x.restart();
    Checks.due("a restart to a greater cost leaves the best cost", true, x.cost() > low && x.bestCost() == low);
    x.setValue(0, 3);
    Checks.due("the search begins by hand", x.cost(), x.bestCost());
  }

  private static void violationOfBest() {
    TabuSolver x = Checks.solver(3, 3);
    x.addConstraint(2, 3, 2, 1);
    x.setValue(0, 2);
    x.setNeighborhood(4);
    Checks.due("a step away from the optimum", 1, x.step());
    Checks.due("present violation", 1, x.violation(0, false));
    Checks.due("best violation", 0, x.violation(0, true));
  }

  private static void mostBlamed() {
    Checks.fails("blame without variables", NoSuchElementException.class, () -> new TabuSolver().mostBlamed());
    TabuSolver x = sample();
    Checks.due("conflicts", "15,15,10", x.variable(0, 3) + "," + x.variable(1, 3) + "," + x.variable(2, 3));
    Checks.due("the first one of two", 0, x.mostBlamed());
    x.setValue(0, 0);
    x.setValue(1, 0);
    x.setValue(2, 0);
    Checks.due("the greatest one", 1, x.mostBlamed());
    x.setWeight(0, 1);
    x.setValue(0, 1);
    Checks.due("of members alone", 1, x.mostBlamed());
    x.setValue(1, 1);
    x.setValue(2, 2);
    x.setValue(0, 0);
    x.setWeight(1, 1);
    Checks.due("the lowest number of three", 0, x.mostBlamed());
    x.removeConstraint(1);
    Checks.fails("no conflict", NoSuchElementException.class, x::mostBlamed);
  }

  private static void relief() {
    TabuSolver x = sample();
    Checks.due("relief of 0: from 15 to 4 by 0", 11, x.relief(0));
    Checks.due("relief of 1: from 15 to 6 by 1", 9, x.relief(1));
    Checks.due("relief of 2: one can't be better than 1", -2, x.relief(2));
    x.setNeighborhood(0);
    Checks.due("the neighborhood does not matter", 11, x.relief(0));
    Checks.fails("relief(3)", IndexOutOfBoundsException.class, () -> x.relief(3));
    Checks.fails("relief(-1)", IndexOutOfBoundsException.class, () -> x.relief(-1));
    Checks.due("relief without constraints", 0, Checks.solver(2).relief(0));
    Checks.due("values stay", "331", Checks.values(x));
    TabuSolver y = Checks.solver(3, 4);
    y.addConstraint(2, 3, 50, 1);
    Checks.due("as far as the domain of 0 goes", 2, y.relief(0));
    Checks.due("as far as the domain of 1 goes", 3, y.relief(1));
  }

  private static void takeBest() {
    TabuSolver x = Checks.solver(3, 3);
    x.addConstraint(2, 3, 2, 3);
    x.setValue(0, 2);
    x.setNeighborhood(4);
    x.step();
    x.step();
    x.restart();
    x.setNeighborhood(2);
    x.step();
    Checks.due("values before", "12", Checks.values(x));
    String before = x.search(0) + "," + x.search(1) + "," + x.search(2) + "," + x.search(4) + "," + x.logSize();
    Checks.due("takeBest", 3, x.takeBest());
    Checks.due("values", "20", Checks.values(x));
    String after = x.search(0) + "," + x.search(1) + "," + x.search(2) + "," + x.search(4) + "," + x.logSize();
    Checks.due("the search goes on", before, after);
    Checks.due("forbidden values stay", true, x.isForbidden(0, 2) && x.isForbidden(1, 1));
    Checks.due("takeBest is no change", 2, x.undo());
    Checks.due("takeBest again", 0, x.takeBest());
    Checks.due("takeBest without variables", 0, new TabuSolver().takeBest());
  }
}
