import java.util.NoSuchElementException;

/** Promises 18 to 26: the neighborhood and the settings, the possible moves, forbidden values, local optima. */
public final class MoveTest {
  public static void main(String[] args) {
    settings();
    settingsLeaveTheSearch();
    setMoves();
    swapMoves();
    shiftMoves();
    rotateMoves();
    orderOfKinds();
    costsOfMoves();
    heldMoves();
    oneForbiddenValueHolds();
    aspiration();
    nextMove();
    forbiddenForSomeTime();
    tenureZero();
    laterEndCounts();
    rotationForbidsWhatChanges();
    localOptimum();
    allMoves();
    Checks.finish("MoveTest");
  }

  private static void settings() {
    TabuSolver x = new TabuSolver();
    Class<IllegalArgumentException> refused = IllegalArgumentException.class;
    Checks.due("setNeighborhood", 15, x.setNeighborhood(0));
    Checks.due("setNeighborhood again", 0, x.setNeighborhood(5));
    Checks.fails("setNeighborhood(16)", refused, () -> x.setNeighborhood(16));
    Checks.fails("setNeighborhood(-1)", refused, () -> x.setNeighborhood(-1));
    Checks.due("neighborhood after refusals", 5, x.setNeighborhood(15));
    Checks.due("setTenure", 3, x.setTenure(20));
    Checks.due("setTenure again", 20, x.setTenure(0));
    Checks.fails("setTenure(21)", refused, () -> x.setTenure(21));
    Checks.fails("setTenure(-1)", refused, () -> x.setTenure(-1));
    Checks.due("tenure after refusals", 0, x.setTenure(1));
    Checks.due("setPatience", 20, x.setPatience(100));
    Checks.due("setPatience again", 100, x.setPatience(1));
    Checks.fails("setPatience(0)", refused, () -> x.setPatience(0));
    Checks.fails("setPatience(101)", refused, () -> x.setPatience(101));
    Checks.due("patience after refusals", 1, x.setPatience(2));
    Checks.due("setSeed", 1, x.setSeed(Integer.MAX_VALUE));
    Checks.due("setSeed again", Integer.MAX_VALUE, x.setSeed(0));
    Checks.fails("setSeed(-1)", refused, () -> x.setSeed(-1));
    Checks.fails("setSeed(least)", refused, () -> x.setSeed(Integer.MIN_VALUE));
    Checks.due("seed after refusals", 0, x.search(3));
  }

  private static void settingsLeaveTheSearch() {
    TabuSolver x = Checks.solver(3, 3);
    x.addConstraint(0, 3, 0, 1);
    x.step();
    x.setNeighborhood(15);
    x.setTenure(9);
    x.setPatience(1);
    x.setSeed(5);
    Checks.due("iteration", 1, x.search(0));
    Checks.due("no restart by setPatience", 0, x.search(2));
    Checks.due("log", 1, x.logSize());
    Checks.due("forbidden", true, x.isForbidden(0, 0));
    Checks.due("settings are no changes", 2, x.undo());
  }

  private static String moves(TabuSolver x) {
    StringBuilder text = new StringBuilder();
    for (int i = 0; i < x.moves(false); i++) {
      text.append(text.length() == 0 ? "" : " ").append(Checks.move(x, i));
    }
    return text.toString();
  }

  private static void setMoves() {
    TabuSolver x = Checks.withValues(Checks.solver(3, 2), 1, 0);
    x.setNeighborhood(1);
    Checks.due("sets", "0:0,0,-1 0:0,2,-1 0:1,1,-1", moves(x));
    Checks.due("count of sets", 3, x.moves(false));
    Checks.fails("move(3, 0)", IndexOutOfBoundsException.class, () -> x.move(3, 0));
    Checks.fails("move(-1, 0)", IndexOutOfBoundsException.class, () -> x.move(-1, 0));
    Checks.fails("move(3, 6)", IndexOutOfBoundsException.class, () -> x.move(3, 6));
    Checks.fails("move(2, 6)", IllegalArgumentException.class, () -> x.move(2, 6));
    Checks.fails("move(2, -1)", IllegalArgumentException.class, () -> x.move(2, -1));
    x.setNeighborhood(0);
    Checks.due("no kinds", 0, x.moves(false));
    Checks.fails("move(0, 0)", IndexOutOfBoundsException.class, () -> x.move(0, 0));
  }

  private static void swapMoves() {
    TabuSolver x = Checks.withValues(Checks.solver(2, 4, 3, 4), 1, 3, 0, 2);
    x.setNeighborhood(2);
    // 0 can't take 3 or 2, and 2 can't take 3.
    Checks.due("swaps", "1:0,2,-1 1:1,3,-1 1:2,3,-1", moves(x));
    x.setValue(2, 1);
    Checks.due("equal values are not swapped", "1:1,3,-1 1:2,3,-1", moves(x));
    Checks.due("values stay", "1312", Checks.values(x));
  }

  private static void shiftMoves() {
    TabuSolver x = Checks.withValues(Checks.solver(2, 4, 4), 1, 3, 0);
    x.addConstraint(2, 7, 0, 1);
    x.setNeighborhood(4);
    Checks.due("shifts", "2:0,0,-1 2:0,1,-1 2:1,0,-1 2:1,1,-1 2:2,0,-1 2:2,1,-1", moves(x));
    Checks.due("sums of values after shifts", "3 3 3 1 7 5", costs(x));
  }

  private static String costs(TabuSolver x) {
    StringBuilder text = new StringBuilder();
    for (int i = 0; i < x.moves(false); i++) {
      text.append(text.length() == 0 ? "" : " ").append(x.move(i, 4));
    }
    return text.toString();
  }

  private static void rotateMoves() {
    TabuSolver x = Checks.withValues(Checks.solver(3, 3, 3), 0, 1, 2);
    x.setNeighborhood(8);
    Checks.due("rotations", "3:0,1,2 3:0,2,1", moves(x));
    x.step();
    Checks.due("b gets the value of a, c that of b, a that of c", "201", Checks.values(x));
    Checks.withValues(x, 0, 1, 2);
    x.addConstraint(2, 3, 3, 1);
    x.step();
    Checks.due("the other rotation", "120", Checks.values(x));
    TabuSolver y = Checks.withValues(Checks.solver(2, 3, 3), 0, 1, 2);
    y.setNeighborhood(8);
    Checks.due("0 can't take 2", "3:0,2,1", moves(y));
    Checks.withValues(y, 1, 1, 1);
    Checks.due("all equal", "", moves(y));
    Checks.withValues(y, 0, 0, 1);
    Checks.due("two are equal", "3:0,1,2 3:0,2,1", moves(y));
    TabuSolver z = Checks.withValues(Checks.solver(4, 4, 4, 4), 0, 1, 2, 3);
    z.setNeighborhood(8);
    Checks.due("four variables", "3:0,1,2 3:0,1,3 3:0,2,1 3:0,2,3 3:0,3,1 3:0,3,2 3:1,2,3 3:1,3,2", moves(z));
  }

  private static void orderOfKinds() {
    TabuSolver x = Checks.withValues(Checks.solver(2, 2, 2), 0, 1, 0);
    String sets = "0:0,1,-1 0:1,0,-1 0:2,1,-1";
    String swaps = "1:0,1,-1 1:1,2,-1";
    String shifts = "2:0,0,-1 2:0,1,-1 2:1,0,-1 2:1,1,-1 2:2,0,-1 2:2,1,-1";
    String rotations = "3:0,1,2 3:0,2,1";
    Checks.due("all kinds", sets + " " + swaps + " " + shifts + " " + rotations, moves(x));
    x.setNeighborhood(10);
    Checks.due("swaps and rotations", swaps + " " + rotations, moves(x));
    x.setNeighborhood(5);
    Checks.due("sets and shifts", sets + " " + shifts, moves(x));
  }

  private static void costsOfMoves() {
    TabuSolver x = Checks.withValues(Checks.solver(3, 3, 3), 0, 1, 2);
    x.addConstraint(2, 3, 5, 2);
    x.setNeighborhood(11);
    Checks.due("costs", "6 4 10 6 8 8 8 4 6 6 4", costs(x));
    Checks.due("values stay", "012", Checks.values(x));
    Checks.due("the cost stays", 8, x.cost());
  }

  /** Both values have left 0, and the cost is 0. */
  private static TabuSolver stuck() {
    TabuSolver x = Checks.solver(2, 2);
    x.addConstraint(2, 3, 2, 1);
    x.setNeighborhood(1);
    x.step();
    x.step();
    return x;
  }

  private static void heldMoves() {
    TabuSolver x = Checks.solver(2, 2);
    x.addConstraint(2, 3, 2, 1);
    x.setNeighborhood(1);
    Checks.due("nothing is held at first", 0, x.moves(true));
    x.step();
    Checks.due("one is held", 1, x.moves(true));
    Checks.due("the return is held", 1, x.move(0, 5));
    Checks.due("the other one is not", 0, x.move(1, 5));
    x = stuck();
    Checks.due("both are held", 2, x.moves(true));
    x.setNeighborhood(15);
    Checks.due("shifts are held, too", 6, x.moves(true));
    Checks.due("all moves", 6, x.moves(false));
    x.restart();
    Checks.due("nothing is held after a restart", 0, x.moves(true));
  }

  private static void oneForbiddenValueHolds() {
    TabuSolver x = Checks.withValues(Checks.solver(3, 3), 0, 1);
    x.setNeighborhood(1);
    x.step();
    x.step();
    Checks.due("values", "21", Checks.values(x));
    x.setNeighborhood(2);
    Checks.due("the swap is held by 1 for 0", 1, x.move(0, 5));
    TabuSolver y = Checks.withValues(Checks.solver(3, 3, 3), 0, 0, 1);
    y.setNeighborhood(1);
    y.step();
    y.takeBest();
    y.setNeighborhood(8);
    Checks.due("the present value is forbidden", true, y.isForbidden(0, 0));
    Checks.due("a value that is kept does not hold", 0, y.moves(true));
  }

  private static void aspiration() {
    TabuSolver x = Checks.withValues(Checks.solver(3, 3), 0, 2);
    x.addConstraint(2, 3, 0, 1);
    x.setNeighborhood(2);
    x.step();
    Checks.due("values after the swap", "20", Checks.values(x));
    Checks.due("the best cost itself is not enough", 1, x.move(0, 5));
    x.setNeighborhood(1);
    Checks.due("costs", "0 1 3 4", costs(x));
    Checks.due("the value is forbidden", true, x.isForbidden(0, 0));
    Checks.due("a new best cost is not held", 0, x.move(0, 5));
    Checks.due("a greater cost is", 1, x.move(3, 5));
    Checks.due("one is held", 1, x.moves(true));
    Checks.due("next move", 0, x.nextMove());
    Checks.due("step", 0, x.step());
  }

  private static void nextMove() {
    TabuSolver x = Checks.solver(3, 3);
    Checks.due("the first one of several", 0, x.nextMove());
    x.addConstraint(2, 3, 3, 1);
    Checks.due("the least cost", 1, x.nextMove());
    x.step();
    Checks.due("values", "20", Checks.values(x));
    Checks.due("held moves have an index, too", 2, x.nextMove());
    Checks.due("nothing is done by that", "20", Checks.values(x));
    x.setNeighborhood(0);
    Checks.fails("no possible move", NoSuchElementException.class, x::nextMove);
    Checks.fails("all are held", NoSuchElementException.class, () -> stuck().nextMove());
    Checks.fails("no variables", NoSuchElementException.class, () -> new TabuSolver().nextMove());
  }

  /** Steps by sets alone, all of cost 0, that never restart. */
  private static TabuSolver wanderer(int tenure) {
    TabuSolver x = Checks.solver(2, 8);
    x.setNeighborhood(1);
    x.setPatience(100);
    x.setTenure(tenure);
    return x;
  }

  private static void forbiddenForSomeTime() {
    TabuSolver x = wanderer(3);
    Checks.due("forbidden at first", false, x.isForbidden(0, 0));
    for (int i = 1; i <= 6; i++) {
      x.step();
      Checks.due("0 for variable 0 at iteration " + i, i <= 4, x.isForbidden(0, 0));
      Checks.due("0 for variable 1 at iteration " + i, i >= 2 && i <= 5, x.isForbidden(1, 0));
      Checks.due("1 for variable 0 at iteration " + i, i == 6, x.isForbidden(0, 1));
    }
    Checks.fails("isForbidden(2, 0)", IndexOutOfBoundsException.class, () -> x.isForbidden(2, 0));
    Checks.fails("isForbidden(-1, 0)", IndexOutOfBoundsException.class, () -> x.isForbidden(-1, 0));
    Checks.fails("isForbidden(2, 9)", IndexOutOfBoundsException.class, () -> x.isForbidden(2, 9));
    Checks.fails("isForbidden(0, 2)", IllegalArgumentException.class, () -> x.isForbidden(0, 2));
    Checks.fails("isForbidden(0, -1)", IllegalArgumentException.class, () -> x.isForbidden(0, -1));
  }

  private static void tenureZero() {
    TabuSolver x = wanderer(0);
    x.step();
    Checks.due("forbidden for the next choice", true, x.isForbidden(0, 0));
    Checks.due("held for the next choice", 1, x.move(0, 5));
    x.step();
    Checks.due("free then", false, x.isForbidden(0, 0));
    Checks.due("the next one is forbidden", true, x.isForbidden(1, 0));
  }

  private static void laterEndCounts() {
    TabuSolver x = wanderer(20);
    x.step();
    x.setTenure(0);
    x.takeBest();
    x.step();
    Checks.due("0 is left again", "10", Checks.values(x));
    for (int i = 3; i <= 22; i++) {
      x.step();
      Checks.due("forbidden at iteration " + i, i <= 21, x.isForbidden(0, 0));
    }
    TabuSolver y = wanderer(1);
    y.step();
    y.setTenure(20);
    y.step();
    y.step();
    Checks.due("the tenure then does not count", false, y.isForbidden(0, 0));
  }

  private static void rotationForbidsWhatChanges() {
    TabuSolver x = Checks.withValues(Checks.solver(3, 3, 3), 0, 0, 1);
    x.setNeighborhood(8);
    x.step();
    Checks.due("values", "100", Checks.values(x));
    Checks.due("0 has changed", true, x.isForbidden(0, 0));
    Checks.due("1 has not", false, x.isForbidden(1, 0));
    Checks.due("2 has changed", true, x.isForbidden(2, 1));
    Checks.due("the new values are free", false, x.isForbidden(0, 1) || x.isForbidden(2, 0));
  }

  private static void localOptimum() {
    TabuSolver x = Checks.solver(3, 2);
    Checks.due("all costs are equal", true, x.isLocalOptimum());
    x.addConstraint(2, 3, 0, 1);
    x.setNeighborhood(1);
    Checks.due("at the optimum", true, x.isLocalOptimum());
    x.step();
    Checks.due("the only way down is held", 1, x.move(0, 5));
    Checks.due("held moves count", false, x.isLocalOptimum());
    x.setNeighborhood(0);
    Checks.due("without moves", true, x.isLocalOptimum());
  }

  private static void allMoves() {
    TabuSolver x = Checks.solver(8, 8, 8, 8, 8, 8, 8, 8, 8, 8);
    Checks.withValues(x, 0, 1, 2, 3, 4, 5, 6, 7, 0, 1);
    Checks.due("70 sets, 43 swaps, 20 shifts, 240 rotations", 373, x.moves(false));
    Checks.due("the last one", "3:7,9,8", Checks.move(x, 372));
    Checks.fails("move(373, 0)", IndexOutOfBoundsException.class, () -> x.move(373, 0));
  }
}
