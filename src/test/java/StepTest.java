import java.util.NoSuchElementException;

/** Promises 27 to 34: steps, runs, descents, restarts, the numbers of the search and the log. */
public final class StepTest {
  public static void main(String[] args) {
    step();
    stepWithoutMoves();
    stepRestarts();
    idleSteps();
    patienceBelowIdleSteps();
    run();
    runStops();
    descend();
    descentsLeaveTheSearch();
    restartValues();
    restartLeavesTheRest();
    restartToANewBest();
    tenVariables();
    searchNumbers();
    logParts();
    logHoldsTheLast();
    improvingShare();
    improvingShareOfTheLast();
    Checks.finish("StepTest");
  }

  /** Two variables of size 8 whose sum is to be the number. */
  private static TabuSolver summing(int number, int first, int second) {
    TabuSolver x = Checks.solver(8, 8);
    x.addConstraint(2, 3, number, 1);
    return Checks.withValues(x, first, second);
  }

  private static void step() {
    TabuSolver x = summing(12, 0, 0);
    x.setNeighborhood(1);
    Checks.due("the least cost", 5, x.step());
    Checks.due("the first one of several", "70", Checks.values(x));
    Checks.due("iteration", 1, x.search(0));
    Checks.due("best cost", 5, x.bestCost());
    Checks.due("best values", "70", Checks.bestValues(x));
    Checks.due("best iteration", 1, x.search(4));
    Checks.due("the previous value is forbidden", true, x.isForbidden(0, 0));
    Checks.due("other values are not", false, x.isForbidden(0, 7) || x.isForbidden(0, 1) || x.isForbidden(1, 0));
    Checks.due("second step", 0, x.step());
    Checks.due("values then", "75", Checks.values(x));
    Checks.due("a step from cost 0", 1, x.step());
    Checks.due("the first one of two", "65", Checks.values(x));
    Checks.due("best values stay", "75", Checks.bestValues(x));
    Checks.due("best cost stays", 0, x.bestCost());
    Checks.due("best iteration stays", 2, x.search(4));
  }

  private static void stepWithoutMoves() {
    Checks.fails("no variables", NoSuchElementException.class, () -> new TabuSolver().step());
    TabuSolver x = summing(12, 7, 6);
    x.setNeighborhood(0);
    Checks.fails("no kinds", NoSuchElementException.class, x::step);
    x.setNeighborhood(2);
    Checks.due("a swap", 1, x.step());
    Checks.fails("the swap back is held", NoSuchElementException.class, x::step);
    Checks.due("iteration", 1, x.search(0));
    Checks.due("log", 1, x.logSize());
    Checks.due("idle steps", 1, x.search(1));
    Checks.due("values", "67", Checks.values(x));
  }

  private static void stepRestarts() {
    TabuSolver x = summing(11, 0, 1);
    x.setNeighborhood(2);
    x.setPatience(1);
    Checks.due("the cost after the restart", 1, x.step());
    Checks.due("values", "66", Checks.values(x));
    Checks.due("the cost in the log is ahead of it", 10, x.log(0, 4));
    Checks.due("iteration", 1, x.search(0));
    Checks.due("idle steps", 0, x.search(1));
    Checks.due("restarts", 1, x.search(2));
    Checks.due("best cost", 1, x.bestCost());
    Checks.due("best iteration", 1, x.search(4));
    Checks.due("nothing is forbidden", false, x.isForbidden(0, 0) || x.isForbidden(1, 1));
    Checks.due("the log stays", 1, x.logSize());
  }

  private static void idleSteps() {
    TabuSolver x = summing(2, 0, 0);
    x.setNeighborhood(4);
    x.setPatience(3);
    x.step();
    x.step();
    Checks.due("a step with a new best cost", 0, x.search(1));
    Checks.due("cost", 0, x.cost());
    x.step();
    Checks.due("one idle step", 1, x.search(1));
    x.step();
    Checks.due("two idle steps", 2, x.search(1));
    Checks.due("no restart yet", 0, x.search(2));
    x.step();
    Checks.due("idle steps after the restart", 0, x.search(1));
    Checks.due("a restart", 1, x.search(2));
    Checks.due("values by the seed", "66", Checks.values(x));
    Checks.due("a cost as before is no improvement", 1, equalStep().search(1));
  }

  private static TabuSolver equalStep() {
    TabuSolver x = summing(12, 7, 6);
    x.setNeighborhood(2);
    x.step();
    return x;
  }

  private static void patienceBelowIdleSteps() {
    TabuSolver x = Checks.solver(8, 8);
    x.setNeighborhood(1);
    x.step();
    x.step();
    x.step();
    x.setPatience(2);
    Checks.due("idle steps stay", 3, x.search(1));
    Checks.due("no restart by that", 0, x.search(2));
    x.step();
    Checks.due("the restart follows the next step", 1, x.search(2));
    Checks.due("idle steps", 0, x.search(1));
    TabuSolver y = equalStep();
    y.setPatience(1);
    y.setNeighborhood(1);
    Checks.due("an improving step", 0, y.step());
    Checks.due("is not followed by a restart", 0, y.search(2));
  }

  private static void run() {
    Checks.fails("run(0)", IllegalArgumentException.class, () -> new TabuSolver().run(0));
    Checks.fails("run(31)", IllegalArgumentException.class, () -> new TabuSolver().run(31));
    Checks.fails("run(-1)", IllegalArgumentException.class, () -> new TabuSolver().run(-1));
    Checks.due("run without variables", 0, new TabuSolver().run(30));
    TabuSolver x = summing(50, 0, 0);
    Checks.due("run(1)", 1, x.run(1));
    Checks.due("run(30)", 30, x.run(30));
    Checks.due("iteration", 31, x.search(0));
    Checks.due("best cost", 36, x.bestCost());
    TabuSolver y = summing(50, 0, 0);
    for (int i = 0; i < 31; i++) {
      y.step();
    }
    Checks.due("steps make the same", Checks.values(y) + y.search(1) + y.search(2), Checks.values(x) + x.search(1)
        + x.search(2));
  }

  private static void runStops() {
    TabuSolver x = summing(12, 0, 0);
    Checks.due("until the cost is 0", 2, x.run(30));
    Checks.due("cost", 0, x.cost());
    Checks.due("no step from cost 0", 0, x.run(30));
    Checks.due("iteration", 2, x.search(0));
    TabuSolver y = summing(12, 0, 1);
    y.setNeighborhood(2);
    y.setPatience(1);
    Checks.due("until a restart reaches cost 0", 1, y.run(30));
    Checks.due("restarts", 1, y.search(2));
    TabuSolver z = Checks.solver(2, 2);
    z.addConstraint(2, 3, 3, 1);
    z.setNeighborhood(1);
    Checks.due("until all moves are held", 2, z.run(30));
    Checks.due("none is left", 0, z.run(30));
    z.setNeighborhood(0);
    Checks.due("none is possible", 0, z.run(1));
    Checks.due("iteration of z", 2, z.search(0));
  }

  private static void descend() {
    TabuSolver x = Checks.solver(2, 2, 2);
    x.addConstraint(0, 7, 0, 1);
    x.setNeighborhood(1);
    Checks.due("one move down", 1, x.descend());
    Checks.due("the first one of several", "100", Checks.values(x));
    Checks.due("best values", "100", Checks.bestValues(x));
    Checks.due("best cost", 1, x.bestCost());
    Checks.due("none to an equal cost", 0, x.descend());
    Checks.due("without variables", 0, new TabuSolver().descend());
    TabuSolver y = summing(12, 1, 0);
    y.setNeighborhood(0);
    Checks.due("without kinds", 0, y.descend());
    y.setNeighborhood(4);
    Checks.due("by shifts", 5, y.descend());
    Checks.due("values by shifts", "57", Checks.values(y));
  }

  private static void descentsLeaveTheSearch() {
    TabuSolver x = summing(12, 0, 1);
    x.setNeighborhood(2);
    x.step();
    x.setNeighborhood(1);
    Checks.due("two moves", 2, x.descend());
    Checks.due("values", "57", Checks.values(x));
    Checks.due("iteration", 1, x.search(0));
    Checks.due("idle steps", 1, x.search(1));
    Checks.due("log", 1, x.logSize());
    Checks.due("best cost", 0, x.bestCost());
    Checks.due("best values", "57", Checks.bestValues(x));
    Checks.due("best iteration", 1, x.search(4));
    Checks.due("nothing becomes forbidden", false, x.isForbidden(0, 1));
    Checks.due("forbidden values stay", true, x.isForbidden(0, 0) && x.isForbidden(1, 1));
    TabuSolver y = Checks.solver(3, 2);
    y.addConstraint(2, 3, 0, 1);
    y.setNeighborhood(1);
    y.step();
    Checks.due("the way down is held", 1, y.move(0, 5));
    Checks.due("held moves are made, too", 1, y.descend());
    Checks.due("cost", 0, y.cost());
    Checks.due("the best iteration stays", 0, y.search(4));
  }

  private static void restartValues() {
    TabuSolver x = Checks.solver(8, 8, 8, 8, 8, 8, 8, 8, 8, 8);
    Checks.due("restart", 0, x.restart());
    Checks.due("the seed 1", "6613332346", Checks.values(x));
    TabuSolver y = Checks.solver(3, 5, 7);
    y.addConstraint(2, 7, 0, 2);
    Checks.due("the cost then", 20, y.restart());
    Checks.due("by domain sizes", "235", Checks.values(y));
    Checks.due("the seed after three", 662824084, y.search(3));
    TabuSolver z = Checks.solver(8);
    z.setSeed(Integer.MAX_VALUE);
    z.restart();
    Checks.due("the greatest seed", 1043980748, z.search(3));
    Checks.due("its value", "1", Checks.values(z));
    z.setSeed(0);
    z.restart();
    Checks.due("the seed 0", 12345, z.search(3));
    Checks.due("its value then", "0", Checks.values(z));
    TabuSolver none = new TabuSolver();
    Checks.due("restart without variables", 0, none.restart());
    Checks.due("the seed stays", 1, none.search(3));
    Checks.due("it is a restart", 1, none.search(2));
  }

  private static void restartLeavesTheRest() {
    TabuSolver x = summing(11, 6, 5);
    x.step();
    x.step();
    Checks.due("there are forbidden values", true, x.isForbidden(0, 6));
    Checks.due("restart", 1, x.restart());
    Checks.due("values", "66", Checks.values(x));
    Checks.due("best values", "65", Checks.bestValues(x));
    Checks.due("best cost", 0, x.bestCost());
    Checks.due("iteration", 2, x.search(0));
    Checks.due("idle steps", 0, x.search(1));
    Checks.due("restarts", 1, x.search(2));
    Checks.due("best iteration", 0, x.search(4));
    Checks.due("log", 2, x.logSize());
    Checks.due("nothing is forbidden", false, x.isForbidden(0, 6) || x.isForbidden(1, 5));
    x.restart();
    Checks.due("restarts add up", 2, x.search(2));
    Checks.due("a restart is no change", 2, x.undo());
  }

  private static void restartToANewBest() {
    TabuSolver x = summing(12, 0, 1);
    x.setNeighborhood(2);
    x.step();
    Checks.due("best iteration before", 0, x.search(4));
    Checks.due("restart", 0, x.restart());
    Checks.due("best cost", 0, x.bestCost());
    Checks.due("best values", "66", Checks.bestValues(x));
    Checks.due("best iteration", 1, x.search(4));
    TabuSolver y = summing(12, 0, 1);
    y.restart();
    Checks.due("best iteration without a step", 0, y.search(4));
    Checks.due("best cost without a step", 0, y.bestCost());
  }

  private static void tenVariables() {
    TabuSolver x = Checks.solver(2, 2, 2, 2, 2, 2, 2, 2, 2, 2);
    x.addConstraint(2, 1023, 50, 2);
    Checks.due("ten steps up", 10, x.run(10));
    Checks.due("values", "1111111111", Checks.values(x));
    Checks.due("best cost", 80, x.bestCost());
    Checks.due("a set and two shifts each of the last four are held", 12, x.moves(true));
    Checks.due("the last one is forbidden", true, x.isForbidden(9, 0));
    Checks.due("restart", 90, x.restart());
    Checks.due("values by the seed", "0011110100", Checks.values(x));
  }

  private static void searchNumbers() {
    TabuSolver x = summing(12, 0, 1);
    Checks.fails("search(5)", IllegalArgumentException.class, () -> x.search(5));
    Checks.fails("search(-1)", IllegalArgumentException.class, () -> x.search(-1));
    x.setSeed(77);
    Checks.due("seed", 77, x.search(3));
    x.run(2);
    x.step();
    x.restart();
    x.step();
    x.step();
    String numbers = x.search(0) + "," + x.search(1) + "," + x.search(2) + "," + x.search(4);
    Checks.due("iteration, idle steps, restarts, best iteration", "5,2,1,2", numbers);
  }

  private static void logParts() {
    TabuSolver x = Checks.withValues(Checks.solver(4, 4, 4), 0, 1, 2);
    x.addConstraint(2, 6, 3, 2);
    Checks.due("empty log", 0, x.logSize());
    Checks.fails("log(0, 0) of an empty log", IndexOutOfBoundsException.class, () -> x.log(0, 0));
    x.setTenure(0);
    x.setNeighborhood(1);
    x.step();
    x.setNeighborhood(2);
    x.step();
    x.setNeighborhood(4);
    x.step();
    x.setNeighborhood(8);
    x.step();
    Checks.due("size", 4, x.logSize());
    Checks.due("set", "0:0,1,-1", Checks.logged(x, 0));
    Checks.due("swap", "1:1,2,-1", Checks.logged(x, 1));
    Checks.due("shift", "2:0,0,-1", Checks.logged(x, 2));
    Checks.due("rotation", "3:0,2,1", Checks.logged(x, 3));
    String costs = x.log(0, 4) + "," + x.log(1, 4) + "," + x.log(2, 4) + "," + x.log(3, 4);
    Checks.due("costs", "0,0,0,4", costs);
    String iterations = x.log(0, 5) + "," + x.log(1, 5) + "," + x.log(2, 5) + "," + x.log(3, 5);
    Checks.due("iterations", "1,2,3,4", iterations);
    Checks.fails("log(4, 0)", IndexOutOfBoundsException.class, () -> x.log(4, 0));
    Checks.fails("log(-1, 0)", IndexOutOfBoundsException.class, () -> x.log(-1, 0));
    Checks.fails("log(4, 6)", IndexOutOfBoundsException.class, () -> x.log(4, 6));
    Checks.fails("log(3, 6)", IllegalArgumentException.class, () -> x.log(3, 6));
    Checks.fails("log(3, -1)", IllegalArgumentException.class, () -> x.log(3, -1));
  }

  private static void logHoldsTheLast() {
    TabuSolver x = Checks.solver(8, 8);
    for (int i = 0; i < 40; i++) {
      x.step();
    }
    Checks.due("40 moves", 40, x.logSize());
    Checks.due("the first one", 1, x.log(0, 5));
    for (int i = 0; i < 15; i++) {
      x.step();
    }
    Checks.due("40 moves of 55", 40, x.logSize());
    for (int i = 0; i < 40; i++) {
      Checks.due("iteration of " + i, i + 16, x.log(i, 5));
    }
    Checks.fails("log(40, 0)", IndexOutOfBoundsException.class, () -> x.log(40, 0));
    x.setValue(0, 0);
    x.step();
    Checks.due("a new log", 1, x.logSize());
    Checks.due("its first one", 1, x.log(0, 5));
  }

  private static void improvingShare() {
    Checks.fails("empty log", ArithmeticException.class, () -> new TabuSolver().improvingShare());
    TabuSolver x = summing(1, 0, 1);
    x.setNeighborhood(2);
    x.setPatience(1);
    x.step();
    Checks.due("none", 0.0, x.improvingShare());
    x.setNeighborhood(4);
    Checks.due("a restart went up", 11, x.log(0, 4) + x.cost());
    x.step();
    Checks.due("less than right ahead, not than in the log", 0.5, x.improvingShare());
    TabuSolver y = summing(12, 0, 0);
    y.step();
    y.step();
    Checks.due("all", 1.0, y.improvingShare());
    y.step();
    Checks.due("two of three", 2.0 / 3.0, y.improvingShare());
  }

  private static void improvingShareOfTheLast() {
    TabuSolver x = Checks.solver(8, 8, 2, 2);
    x.addConstraint(2, 12, 1, 1);
    x.step();
    Checks.due("one of one", 1.0, x.improvingShare());
    x.setPatience(100);
    for (int i = 0; i < 39; i++) {
      x.step();
    }
    double share = x.improvingShare();
    x.step();
    Checks.due("the first one is gone", share - 1.0 / 40.0, x.improvingShare());
  }
}
