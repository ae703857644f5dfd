import java.util.ArrayList;
import java.util.List;
import java.util.NoSuchElementException;

/** What the document's sentences on moves, forbidden values and promises 18 to 26 name as boundary cases. */
public final class MoveEdgeTest {
  private static final int SETS = 1;
  private static final int SWAPS = 2;
  private static final int SHIFTS = 4;
  private static final int ROTATIONS = 8;

  public static void main(String[] args) {
    neighborhoods();
    neighborhoodIsASetOfKinds();
    tenures();
    patiences();
    seeds();
    settingsDoNotBeginTheSearch();
    noMoves();
    setsLeaveOutThePresentValue();
    swapsNeedDifferentValues();
    swapsNeedBothDomains();
    shiftsWrapAround();
    shiftsOfSizeTwo();
    rotationsNeedThreeVariables();
    rotationsNeedDomains();
    rotationsOfEqualValues();
    rotationsInEitherOrder();
    rotationsMoveValues();
    orderOfMoves();
    numbersWithoutMeaning();
    partsOfMoves();
    costIsThatAfterTheMove();
    iterationsOfATenure();
    forbiddenForTheVariableAlone();
    forbiddenByEachKindOfMove();
    laterEndStays();
    heldByOneValue();
    heldByValuesThatChange();
    heldUnlessLessThanTheBest();
    bestCostIsThatOfTheSearch();
    heldCounts();
    nextMoveCountsHeldOnes();
    nextMoveIsTheFirstOfSeveral();
    localOptimumByEqualCosts();
    localOptimumByTheNeighborhood();
    Checks.finish("MoveEdgeTest");
  }

  private static TabuSolver with(int kinds, TabuSolver x, int... values) {
    Checks.withValues(x, values);
    x.setNeighborhood(kinds);
    return x;
  }

  private static List<String> moves(TabuSolver x) {
    List<String> list = new ArrayList<>();
    int all = x.moves(false);
    for (int i = 0; i < all; i++) {
      list.add(Checks.move(x, i));
    }
    return list;
  }

  private static void neighborhoods() {
    Checks.sentence("D: The neighborhood is a set of kinds of moves, at first all four");
    TabuSolver x = new TabuSolver();
    Checks.due("at first", 15, x.setNeighborhood(15));
    Checks.sentence("18: the set of kinds of moves, 0 to 15");
    int before = 15;
    for (int kinds = 0; kinds <= 15; kinds++) {
      Checks.due("setNeighborhood(" + kinds + ")", before, x.setNeighborhood(kinds));
      before = kinds;
    }
    Checks.fails("setNeighborhood(16)", IllegalArgumentException.class, () -> x.setNeighborhood(16));
    Checks.fails("setNeighborhood(-1)", IllegalArgumentException.class, () -> x.setNeighborhood(-1));
    Checks.due("the last one stays", 15, x.setNeighborhood(0));
    Checks.due("no kinds", 0, x.setNeighborhood(0));
  }

  private static void neighborhoodIsASetOfKinds() {
    Checks.sentence("D: a move is possible if its kind is in it; Sets are bit masks, bit k for number k");
    int[] counts = {6, 3, 6, 2};
    for (int kinds = 0; kinds <= 15; kinds++) {
      TabuSolver x = with(kinds, Checks.solver(3, 3, 3), 0, 1, 2);
      int due = 0;
      for (int kind = 0; kind < 4; kind++) {
        due += (kinds >> kind & 1) * counts[kind];
      }
      Checks.due("moves in " + kinds, due, x.moves(false));
      int found = 0;
      for (int i = 0; i < due; i++) {
        found |= 1 << x.move(i, 0);
      }
      Checks.due("kinds in " + kinds, kinds, found);
      int beyond = due;
      Checks.fails("the move behind the last", IndexOutOfBoundsException.class, () -> x.move(beyond, 0));
    }
  }

  private static void tenures() {
    Checks.sentence("D: a tenure from 0 to 20, at first 3");
    TabuSolver x = new TabuSolver();
    int before = 3;
    for (int tenure = 0; tenure <= 20; tenure++) {
      Checks.due("setTenure(" + tenure + ")", before, x.setTenure(tenure));
      before = tenure;
    }
    Checks.fails("setTenure(21)", IllegalArgumentException.class, () -> x.setTenure(21));
    Checks.fails("setTenure(-1)", IllegalArgumentException.class, () -> x.setTenure(-1));
    Checks.due("the last one stays", 20, x.setTenure(20));
  }

  private static void patiences() {
    Checks.sentence("D: the patience, from 1 to 100, at first 20");
    TabuSolver x = new TabuSolver();
    int before = 20;
    for (int patience = 1; patience <= 100; patience++) {
      Checks.due("setPatience(" + patience + ")", before, x.setPatience(patience));
      before = patience;
    }
    Checks.fails("setPatience(101)", IllegalArgumentException.class, () -> x.setPatience(101));
    Checks.fails("setPatience(0)", IllegalArgumentException.class, () -> x.setPatience(0));
    Checks.due("the last one stays", 100, x.setPatience(1));
  }

  private static void seeds() {
    Checks.sentence("D: the seed, from 0 to 2147483647 and at first 1");
    TabuSolver x = new TabuSolver();
    Checks.due("at first", 1, x.search(3));
    Checks.due("setSeed(0)", 1, x.setSeed(0));
    Checks.due("the least one", 0, x.search(3));
    Checks.due("setSeed(2147483647)", 0, x.setSeed(2147483647));
    Checks.due("the greatest one", 2147483647, x.search(3));
    Checks.fails("setSeed(-1)", IllegalArgumentException.class, () -> x.setSeed(-1));
    Checks.fails("setSeed(-2147483648)", IllegalArgumentException.class, () -> x.setSeed(-2147483648));
    Checks.due("the last one stays", 2147483647, x.setSeed(5));
  }

  private static void settingsDoNotBeginTheSearch() {
    Checks.sentence("D: it does not begin when the neighborhood, the tenure, the patience or the seed is set");
    for (int setting = 0; setting < 4; setting++) {
      TabuSolver x = Samples.ordinary();
      String values = Checks.values(x) + " " + Checks.bestValues(x);
      switch (setting) {
        case 0 -> x.setNeighborhood(7);
        case 1 -> x.setTenure(5);
        case 2 -> x.setPatience(6);
        default -> x.setSeed(99);
      }
      String what = "setting " + setting + ": ";
      Checks.due(what + "iteration", 5, x.search(0));
      Checks.due(what + "steps without improvement", 3, x.search(1));
      Checks.due(what + "restarts", 1, x.search(2));
      Checks.due(what + "best iteration", 2, x.search(4));
      Checks.due(what + "log", 5, x.logSize());
      Checks.due(what + "best cost", 0, x.bestCost());
      Checks.due(what + "values and best values", values, Checks.values(x) + " " + Checks.bestValues(x));
      Checks.due(what + "forbidden values", true, x.isForbidden(0, 1) && x.isForbidden(2, 0));
    }
  }

  private static void noMoves() {
    Checks.sentence("22, 23, 24, 26: without a possible move");
    TabuSolver x = new TabuSolver();
    Checks.due("moves without variables", 0, x.moves(false));
    Checks.due("held ones", 0, x.moves(true));
    Checks.fails("move 0", IndexOutOfBoundsException.class, () -> x.move(0, 0));
    Checks.fails("next move", NoSuchElementException.class, x::nextMove);
    Checks.due("a local optimum", true, x.isLocalOptimum());
    TabuSolver y = with(SWAPS, Checks.solver(8));
    Checks.due("no swap of one variable", 0, y.moves(false));
    y.setNeighborhood(ROTATIONS);
    Checks.due("no rotation of one variable", 0, y.moves(false));
    y.setNeighborhood(SETS | SHIFTS);
    Checks.due("sets and shifts of one variable", 9, y.moves(false));
  }

  private static void setsLeaveOutThePresentValue() {
    Checks.sentence("D: Kind 0 set: variable a gets the value b, which is another one than it has");
    for (int value = 0; value < 8; value++) {
      TabuSolver x = with(SETS, Checks.solver(8), value);
      List<String> due = new ArrayList<>();
      for (int b = 0; b < 8; b++) {
        if (b != value) {
          due.add("0:0," + b + ",-1");
        }
      }
      Checks.due("sets from " + value, due, moves(x));
    }
    Checks.due("sets of size 2", List.of("0:0,0,-1", "0:1,1,-1"), moves(with(SETS, Checks.solver(2, 2), 1, 0)));
  }

  private static void swapsNeedDifferentValues() {
    Checks.sentence("D: 1 swap: .. exchange their values, which are different");
    Checks.due("equal ones", List.of(), moves(with(SWAPS, Checks.solver(8, 8), 7, 7)));
    Checks.due("different ones", List.of("1:0,1,-1"), moves(with(SWAPS, Checks.solver(8, 8), 7, 6)));
    Checks.due("in the other order", List.of("1:0,1,-1"), moves(with(SWAPS, Checks.solver(8, 8), 6, 7)));
    Checks.sentence("D: 1 swap: the variables a and b, where a is less than b");
    List<String> due = List.of("1:0,1,-1", "1:0,2,-1", "1:1,2,-1");
    Checks.due("of three", due, moves(with(SWAPS, Checks.solver(8, 8, 8), 2, 1, 0)));
    TabuSolver x = with(SWAPS, Checks.solver(8, 8, 8), 5, 1, 0);
    x.step();
    Checks.due("values are exchanged", "150", Checks.values(x));
  }

  private static void swapsNeedBothDomains() {
    Checks.sentence("D: 1 swap: .. are both in both domains");
    for (int size = 2; size <= 8; size++) {
      List<String> due = List.of("1:0,1,-1");
      Checks.due("the last value of the second domain", due, moves(with(SWAPS, Checks.solver(8, size), size - 1, 0)));
      Checks.due("the last value of the first domain", due, moves(with(SWAPS, Checks.solver(size, 8), 0, size - 1)));
      if (size < 8) {
        Checks.due("beyond the second domain", List.of(), moves(with(SWAPS, Checks.solver(8, size), size, 0)));
        Checks.due("beyond the first domain", List.of(), moves(with(SWAPS, Checks.solver(size, 8), 0, size)));
      }
    }
  }

  private static void shiftsWrapAround() {
    Checks.sentence("D: 2 shift: .. becomes 0 if it was the last one of the domain, if b is 1");
    for (int size = 2; size <= 8; size++) {
      for (int value = 0; value < size; value++) {
        TabuSolver x = with(SHIFTS, Checks.solver(size, 8), value, 0);
        x.addConstraint(2, 3, -50, 1);
        Checks.due("up from " + value + " of " + size, 50 + (value == size - 1 ? 0 : value + 1), x.move(1, 4));
        Checks.sentence("D: 2 shift: .. becomes the last one if it was 0, if b is 0");
        Checks.due("down from " + value + " of " + size, 50 + (value == 0 ? size - 1 : value - 1), x.move(0, 4));
        Checks.due("down is first", List.of("2:0,0,-1", "2:0,1,-1", "2:1,0,-1", "2:1,1,-1"), moves(x));
      }
    }
    TabuSolver y = with(SHIFTS, Checks.solver(3), 0);
    y.step();
    Checks.due("a step down from 0", "2", Checks.values(y));
    TabuSolver z = with(SHIFTS, Checks.solver(3, 3), 2, 0);
    z.addConstraint(2, 3, 0, 1);
    z.step();
    Checks.due("a step up from the last one", "00", Checks.values(z));
    Checks.due("it was the shift with b 1", "2:0,1,-1", Checks.logged(z, 0));
  }

  private static void shiftsOfSizeTwo() {
    Checks.sentence("D: With the domain size 2, both shifts are moves");
    for (int value = 0; value < 2; value++) {
      TabuSolver x = with(SHIFTS, Checks.solver(2, 2), value, value);
      x.addConstraint(2, 3, -50, 1);
      Checks.due("four shifts", List.of("2:0,0,-1", "2:0,1,-1", "2:1,0,-1", "2:1,1,-1"), moves(x));
      for (int i = 0; i < 4; i++) {
        Checks.due("to the same values", 51, x.move(i, 4));
      }
    }
  }

  private static void rotationsNeedThreeVariables() {
    Checks.sentence("D: 3 rotate: three different variables a, b and c, of which a has the lowest number");
    Checks.due("of two", List.of(), moves(with(ROTATIONS, Checks.solver(8, 8), 0, 1)));
    List<String> three = List.of("3:0,1,2", "3:0,2,1");
    Checks.due("of three", three, moves(with(ROTATIONS, Checks.solver(8, 8, 8), 0, 1, 2)));
    Checks.due("of ten", 240, with(ROTATIONS, Checks.solver(8, 8, 8, 8, 8, 8, 8, 8, 8, 8), 0, 1, 2, 3, 4, 5, 6, 7, 0, 1)
        .moves(false));
  }

  private static void rotationsNeedDomains() {
    Checks.sentence("D: 3 rotate: .. b gets the value of a, c that of b, and a that of c, which are in their domains");
    List<String> first = List.of("3:0,1,2");
    List<String> second = List.of("3:0,2,1");
    // In 0,1,2 the values of 0, 1 and 2 go to 1, 2 and 0; in 0,2,1 they go to 2, 0 and 1.
    Checks.due("the value of 0 fits 1 just so", first, moves(with(ROTATIONS, Checks.solver(8, 4, 3), 3, 0, 0)));
    Checks.due("the value of 0 fits 2 just so", second, moves(with(ROTATIONS, Checks.solver(8, 3, 4), 3, 0, 0)));
    Checks.due("the value of 1 fits 2 just so", first, moves(with(ROTATIONS, Checks.solver(3, 8, 4), 0, 3, 0)));
    Checks.due("the value of 1 fits 0 just so", second, moves(with(ROTATIONS, Checks.solver(4, 8, 3), 0, 3, 0)));
    Checks.due("the value of 2 fits 0 just so", first, moves(with(ROTATIONS, Checks.solver(4, 3, 8), 0, 0, 3)));
    Checks.due("the value of 2 fits 1 just so", second, moves(with(ROTATIONS, Checks.solver(3, 4, 8), 0, 0, 3)));
    Checks.due("fits neither", List.of(), moves(with(ROTATIONS, Checks.solver(3, 3, 8), 0, 0, 3)));
    Checks.due("fits both", List.of("3:0,1,2", "3:0,2,1"), moves(with(ROTATIONS, Checks.solver(4, 4, 8), 0, 0, 3)));
  }

  private static void rotationsOfEqualValues() {
    Checks.sentence("D: 3 rotate: .. not all three values are equal");
    Checks.due("all equal", List.of(), moves(with(ROTATIONS, Checks.solver(8, 8, 8), 5, 5, 5)));
    Checks.sentence("D: In a rotation, .. a variable may keep its value");
    List<String> both = List.of("3:0,1,2", "3:0,2,1");
    Checks.due("the first one differs", both, moves(with(ROTATIONS, Checks.solver(8, 8, 8), 4, 5, 5)));
    Checks.due("the second one differs", both, moves(with(ROTATIONS, Checks.solver(8, 8, 8), 5, 4, 5)));
    Checks.due("the third one differs", both, moves(with(ROTATIONS, Checks.solver(8, 8, 8), 5, 5, 4)));
    TabuSolver x = with(ROTATIONS, Checks.solver(8, 8, 8), 5, 5, 4);
    x.step();
    Checks.due("b keeps its value", "455", Checks.values(x));
    Checks.due("and nothing is forbidden for it", false, x.isForbidden(1, 5));
    Checks.due("a has changed", true, x.isForbidden(0, 5));
    Checks.due("c has changed", true, x.isForbidden(2, 4));
  }

  private static void rotationsInEitherOrder() {
    Checks.sentence("D: In a rotation, b and c stand in either order");
    TabuSolver x = with(ROTATIONS, Checks.solver(4, 4, 4, 4), 0, 1, 2, 3);
    Checks.due("of four", List.of("3:0,1,2", "3:0,1,3", "3:0,2,1", "3:0,2,3", "3:0,3,1", "3:0,3,2", "3:1,2,3", "3:1,3,2"),
        moves(x));
  }

  private static void rotationsMoveValues() {
    Checks.sentence("D: 3 rotate: .. where b gets the value of a, c that of b, and a that of c");
    TabuSolver x = with(ROTATIONS, Checks.solver(8, 8, 8), 5, 6, 7);
    x.step();
    Checks.due("0, 1, 2", "756", Checks.values(x));
    with(ROTATIONS, x, 5, 6, 7);
    x.addConstraint(2, 3, 13, 1);
    x.step();
    Checks.due("0, 2, 1", "675", Checks.values(x));
    Checks.due("by the second rotation", "3:0,2,1", Checks.logged(x, 0));
  }

  /** All moves of the kinds by the document's words, sorted by their kinds, then by a, b and c. */
  private static List<String> sorted(int[] sizes, int[] values) {
    List<String> list = new ArrayList<>();
    int n = sizes.length;
    for (int a = 0; a < n; a++) {
      for (int b = 0; b < 8; b++) {
        put(list, b < sizes[a] && b != values[a], "0:" + a + "," + b + ",-1");
      }
    }
    for (int a = 0; a < n; a++) {
      for (int b = a + 1; b < n; b++) {
        boolean areInBoth = values[a] < sizes[b] && values[b] < sizes[a];
        put(list, areInBoth && values[a] != values[b], "1:" + a + "," + b + ",-1");
      }
    }
    for (int a = 0; a < n; a++) {
      put(list, true, "2:" + a + ",0,-1");
      put(list, true, "2:" + a + ",1,-1");
    }
    for (int code = 0; code < 1000; code++) {
      int a = code / 100;
      int b = code / 10 % 10;
      int c = code % 10;
      if (a < b && a < c && b != c && b < n && c < n) {
        boolean areIn = values[a] < sizes[b] && values[b] < sizes[c] && values[c] < sizes[a];
        boolean areEqual = values[a] == values[b] && values[b] == values[c];
        put(list, areIn && !areEqual, "3:" + a + "," + b + "," + c);
      }
    }
    return list;
  }

  private static void put(List<String> list, boolean isMove, String move) {
    if (isMove) {
      list.add(move);
    }
  }

  private static void orderOfMoves() {
    Checks.sentence("D: Moves are ordered by their kinds, then by a, b and c");
    int[][] sizes = {{2}, {3, 2}, {4, 3, 5}, {8, 2, 5, 3}, {3, 3, 4, 2, 3}};
    int[][] values = {{1}, {2, 1}, {2, 0, 4}, {1, 0, 4, 2}, {2, 1, 1, 0, 2}};
    for (int i = 0; i < sizes.length; i++) {
      TabuSolver x = with(15, Checks.solver(sizes[i]), values[i]);
      Checks.due("moves " + i, sorted(sizes[i], values[i]), moves(x));
    }
    int[] all = {8, 8, 8, 8, 8, 8, 8, 8, 8, 8};
    int[] mixed = {0, 1, 2, 3, 4, 5, 6, 7, 0, 7};
    List<String> due = sorted(all, mixed);
    for (int from = 0; from < due.size(); from += 60) {
      TabuSolver x = with(15, Checks.solver(all), mixed);
      Checks.due("moves of ten variables", due.size(), x.moves(false));
      for (int i = from; i < Math.min(due.size(), from + 60); i++) {
        Checks.due("move " + i, due.get(i), Checks.move(x, i));
      }
    }
  }

  private static void numbersWithoutMeaning() {
    Checks.sentence("D: A move has a kind and up to three numbers a, b and c; those without meaning are -1");
    TabuSolver x = with(15, Checks.solver(2, 2, 2), 0, 1, 0);
    int all = x.moves(false);
    for (int i = 0; i < all; i++) {
      Checks.due("c of move " + i, x.move(i, 0) == 3, x.move(i, 3) != -1);
      Checks.due("b of move " + i, true, x.move(i, 2) >= 0);
    }
    with(SHIFTS, x, 0, 0, 0);
    x.step();
    Checks.due("c of a shift in the log", -1, x.log(0, 3));
  }

  private static void partsOfMoves() {
    Checks.sentence("23: 0 for its kind, 1 to 3 for its numbers a to c, 4 for its cost, 5 for 1 if it is held, otherwise 0");
    TabuSolver x = with(ROTATIONS, Checks.solver(4, 4, 4), 1, 2, 3);
    x.addConstraint(2, 3, 50, 2);
    x.step();
    Checks.due("values", "231", Checks.values(x));
    Checks.due("cost", 90, x.cost());
    int[][] due = {{3, 0, 1, 2, 94, 1}, {3, 0, 2, 1, 92, 0}};
    for (int i = 0; i < 2; i++) {
      for (int what = 0; what < 6; what++) {
        Checks.due("part " + what + " of " + i, due[i][what], x.move(i, what));
      }
    }
    Checks.fails("part -1", IllegalArgumentException.class, () -> x.move(1, -1));
    Checks.fails("part 6", IllegalArgumentException.class, () -> x.move(1, 6));
    Checks.fails("move -1", IndexOutOfBoundsException.class, () -> x.move(-1, 0));
    Checks.fails("move 2", IndexOutOfBoundsException.class, () -> x.move(2, 0));
  }

  private static void costIsThatAfterTheMove() {
    Checks.sentence("D: The move's cost is the cost after it");
    TabuSolver x = with(SETS, Checks.solver(8, 8), 3, 3);
    x.addConstraint(2, 3, 6, 9);
    for (int b = 0; b < 8; b++) {
      if (b != 3) {
        Checks.due("cost of the set to " + b, 9 * Math.abs(b - 3), x.move(b < 3 ? b : b - 1, 4));
      }
    }
    Checks.due("the values stay", "33", Checks.values(x));
    Checks.due("the cost stays", 0, x.cost());
  }

  /** All costs are 0; the first variable leaves 0 by the first step and can only return by a free value. */
  private static TabuSolver wanderer(int tenure) {
    TabuSolver x = with(SETS, Checks.solver(2, 8, 8, 8, 8));
    x.setPatience(100);
    x.setTenure(tenure);
    return x;
  }

  private static void iterationsOfATenure() {
    Checks.sentence("D: forbidden .. until the iteration number is greater than the number then plus the tenure");
    for (int tenure = 0; tenure <= 20; tenure++) {
      TabuSolver x = wanderer(tenure);
      Checks.due("free at first", false, x.isForbidden(0, 0));
      for (int iteration = 1; iteration <= tenure + 2; iteration++) {
        x.step();
        boolean isForbidden = iteration <= tenure + 1;
        String what = "tenure " + tenure + ", iteration " + iteration;
        Checks.due(what + ", forbidden", isForbidden, x.isForbidden(0, 0));
        Checks.due(what + ", held", isForbidden ? 1 : 0, x.move(0, 5));
        Checks.due(what + ", next", !isForbidden, x.nextMove() == 0);
      }
      x.step();
      Checks.due("the value is taken then", 0, x.variable(0, 1));
    }
  }

  private static void forbiddenForTheVariableAlone() {
    Checks.sentence("D: for each variable whose value it changes, the previous value is forbidden for this variable");
    TabuSolver x = with(SWAPS, Checks.solver(8, 8, 8), 7, 0, 3);
    x.step();
    Checks.due("values", "073", Checks.values(x));
    for (int v = 0; v < 3; v++) {
      for (int value = 0; value < 8; value++) {
        boolean isLeft = v == 0 && value == 7 || v == 1 && value == 0;
        Checks.due(value + " for variable " + v, isLeft, x.isForbidden(v, value));
      }
    }
  }

  private static void forbiddenByEachKindOfMove() {
    Checks.sentence("D: When a move is made by step, .. the previous value is forbidden");
    int[] forbidden = {1, 2, 1, 3};
    for (int kind = 0; kind < 4; kind++) {
      TabuSolver x = with(1 << kind, Checks.solver(5, 5, 5), 1, 2, 3);
      x.step();
      int found = 0;
      for (int v = 0; v < 3; v++) {
        Checks.due("the present value is free", false, x.isForbidden(v, x.variable(v, 1)));
        for (int value = 0; value < 5; value++) {
          found += x.isForbidden(v, value) ? 1 : 0;
        }
      }
      Checks.due("forbidden by kind " + kind, forbidden[kind], found);
      Checks.due("1 for the first variable", true, x.isForbidden(0, 1));
      Checks.due("2 for the second variable", kind == 1 || kind == 3, x.isForbidden(1, 2));
      Checks.due("3 for the third variable", kind == 3, x.isForbidden(2, 3));
    }
    TabuSolver y = with(SETS, Checks.solver(5, 5), 4, 4);
    y.addConstraint(2, 3, 0, 1);
    y.descend();
    Checks.due("not by a descent", false, y.isForbidden(0, 4) || y.isForbidden(1, 4));
  }

  private static void laterEndStays() {
    Checks.sentence("D: a value that becomes forbidden again stays so until the later end");
    TabuSolver x = wanderer(10);
    x.step();
    x.takeBest();
    x.setTenure(2);
    x.step();
    Checks.due("the value is left again", 1, x.variable(0, 1));
    for (int iteration = 2; iteration <= 13; iteration++) {
      Checks.due("the first end is later, iteration " + iteration, iteration <= 11, x.isForbidden(0, 0));
      x.step();
    }
    TabuSolver y = wanderer(2);
    y.step();
    y.takeBest();
    y.setTenure(10);
    y.step();
    for (int iteration = 2; iteration <= 13; iteration++) {
      Checks.due("the second end is later, iteration " + iteration, iteration <= 12, y.isForbidden(0, 0));
      y.step();
    }
  }

  /** Steps by sets of cost 0 that forbid values, and back to the values at the beginning. */
  private static TabuSolver comeBack(int steps, TabuSolver x, int... values) {
    with(SETS, x, values);
    x.setTenure(20);
    for (int i = 0; i < steps; i++) {
      x.step();
    }
    x.takeBest();
    return x;
  }

  private static void heldByOneValue() {
    Checks.sentence("D: One forbidden value is enough to hold a move");
    TabuSolver first = comeBack(2, Checks.solver(3, 2), 1, 0);
    first.setNeighborhood(SWAPS);
    Checks.due("the first variable may not get 0", true, first.isForbidden(0, 0));
    Checks.due("the second variable may get 1", false, first.isForbidden(1, 1));
    Checks.due("the swap is held", 1, first.move(0, 5));
    TabuSolver second = comeBack(3, Checks.solver(2, 3), 0, 1);
    second.setNeighborhood(SWAPS);
    Checks.due("the first variable may get 1", false, second.isForbidden(0, 1));
    Checks.due("the second variable may not get 0", true, second.isForbidden(1, 0));
    Checks.due("that swap is held, too", 1, second.move(0, 5));
    TabuSolver neither = comeBack(1, Checks.solver(8, 8), 7, 1);
    neither.setNeighborhood(SWAPS);
    Checks.due("a value is forbidden", true, neither.isForbidden(0, 0) || neither.isForbidden(0, 7));
    Checks.due("but none that the swap gives", 0, neither.move(0, 5));
  }

  private static void heldByValuesThatChange() {
    Checks.sentence("D: A move is held if it gives a forbidden value to a variable whose value it changes");
    TabuSolver x = comeBack(4, Checks.solver(2, 2, 3), 0, 0, 1);
    x.setNeighborhood(ROTATIONS);
    Checks.due("the second variable keeps a forbidden value", true, x.isForbidden(1, 0));
    Checks.due("the third variable may not get 0", true, x.isForbidden(2, 0));
    Checks.due("the first variable may get 1", false, x.isForbidden(0, 1));
    Checks.due("a rotation is held by its third variable", 1, x.move(0, 5));
    TabuSolver y = comeBack(1, Checks.solver(3, 3, 3), 0, 0, 1);
    y.setNeighborhood(ROTATIONS);
    Checks.due("the first variable has a forbidden value", true, y.isForbidden(0, 0));
    Checks.due("a rotation that changes it is not held by that", 0, y.moves(true));
    TabuSolver z = comeBack(3, Checks.solver(2, 2, 3), 1, 0, 0);
    z.setNeighborhood(ROTATIONS);
    Checks.due("the third variable has a forbidden value", true, z.isForbidden(2, 0));
    Checks.due("the second variable has one, too", true, z.isForbidden(1, 0));
    Checks.due("the first variable may get 0", false, z.isForbidden(0, 0));
    Checks.due("values that are kept do not hold a rotation", 0, z.moves(true));
  }

  private static void heldUnlessLessThanTheBest() {
    Checks.sentence("D: unless its cost is less than the best cost");
    TabuSolver x = with(SWAPS, Checks.solver(3, 3), 0, 1);
    x.addConstraint(2, 3, 0, 1);
    x.step();
    Checks.due("values", "10", Checks.values(x));
    Checks.due("forbidden values", true, x.isForbidden(0, 0) && x.isForbidden(1, 1));
    Checks.due("best cost", 1, x.bestCost());
    Checks.due("the swap has the best cost", 1, x.move(0, 4));
    Checks.due("so it is held", 1, x.move(0, 5));
    x.setNeighborhood(SETS);
    Checks.due("the set of the first one to 0 has one less", 0, x.move(0, 4));
    Checks.due("so it is not held", 0, x.move(0, 5));
    Checks.due("the set of the second one to 1 has one more", 2, x.move(2, 4));
    Checks.due("so it is held", 1, x.move(2, 5));
    Checks.due("one is held", 1, x.moves(true));
    Checks.due("the next one gives a forbidden value", 0, x.nextMove());
    Checks.due("it is made", 0, x.step());
    Checks.due("values then", "00", Checks.values(x));
    Checks.due("the value that it gave is forbidden still", true, x.isForbidden(0, 0));
  }

  private static void bestCostIsThatOfTheSearch() {
    Checks.sentence("D: unless its cost is less than the best cost");
    TabuSolver x = with(SETS, Checks.solver(5, 5), 3, 0);
    x.addConstraint(2, 3, 3, 1);
    Checks.due("a step up", 1, x.step());
    Checks.due("values", "20", Checks.values(x));
    Checks.due("the way back", "0:0,3,-1", Checks.move(x, 2));
    Checks.due("its cost is less than the present one", 0, x.move(2, 4));
    Checks.due("but not less than the best one", 1, x.move(2, 5));
    Checks.due("another one is made", 0, x.step());
    Checks.due("values then", "21", Checks.values(x));
  }

  private static void heldCounts() {
    Checks.sentence("22: true to count only those that are held, false to count all");
    TabuSolver x = Samples.stuck();
    Checks.due("all sets", 2, x.moves(false));
    Checks.due("all are held", 2, x.moves(true));
    x.setNeighborhood(SWAPS);
    Checks.due("no swaps", 0, x.moves(false));
    Checks.due("none is held", 0, x.moves(true));
    x.setNeighborhood(15);
    Checks.due("all moves", 6, x.moves(false));
    Checks.due("all moves are held", 6, x.moves(true));
    x.restart();
    Checks.due("none after a restart", 0, x.moves(true));
    TabuSolver y = with(SETS, Checks.solver(8, 8), 0, 0);
    y.step();
    Checks.due("one of fourteen", 1, y.moves(true));
    Checks.due("fourteen", 14, y.moves(false));
  }

  private static void nextMoveCountsHeldOnes() {
    Checks.sentence("24: Returns the index in the order of the possible moves");
    TabuSolver x = with(SETS, Checks.solver(4, 4), 0, 0);
    for (int step = 0; step < 3; step++) {
      Checks.due("the held ones ahead count", step, x.nextMove());
      x.step();
    }
    Checks.due("values", "30", Checks.values(x));
    Checks.due("three held ones ahead", 3, x.nextMove());
    Checks.due("the first one of the second variable", "0:1,1,-1", Checks.move(x, 3));
    Checks.due("nothing is made by that", "30", Checks.values(x));
  }

  private static void nextMoveIsTheFirstOfSeveral() {
    Checks.sentence("D, 24: the one with the least cost; of several, the first one in their order");
    TabuSolver x = with(15, Checks.solver(3, 3, 3), 0, 1, 2);
    Checks.due("all costs are equal", 0, x.nextMove());
    x.addConstraint(2, 1 | 4, 3, 1);
    Checks.due("values of sum 2, to be 3", 1, x.cost());
    Checks.due("the first one with cost 0", "0:0,1,-1", Checks.move(x, x.nextMove()));
    x.setNeighborhood(SWAPS | SHIFTS | ROTATIONS);
    Checks.due("the first swap has it, too", "1:0,1,-1", Checks.move(x, x.nextMove()));
    x.setNeighborhood(SHIFTS | ROTATIONS);
    Checks.due("the second shift has it", "2:0,1,-1", Checks.move(x, x.nextMove()));
    x.setNeighborhood(ROTATIONS);
    Checks.due("the first rotation has it", "3:0,1,2", Checks.move(x, x.nextMove()));
    x.removeConstraint(0);
    x.addConstraint(2, 1 | 2, 3, 1);
    Checks.due("only the second rotation has it", "3:0,2,1", Checks.move(x, x.nextMove()));
    x.removeConstraint(0);
    x.addConstraint(2, 1 | 4, 4, 1);
    x.setNeighborhood(15);
    Checks.due("the last set of the first variable", "0:0,2,-1", Checks.move(x, x.nextMove()));
  }

  private static void localOptimumByEqualCosts() {
    Checks.sentence("26: no possible move, held or not, has a cost less than the present cost");
    TabuSolver x = with(SETS, Checks.solver(3, 3), 0, 0);
    Checks.due("all costs are equal", true, x.isLocalOptimum());
    x.addConstraint(2, 3, 1, 1);
    Checks.due("a move costs one less", false, x.isLocalOptimum());
    x.step();
    Checks.due("all moves cost one or two more", true, x.isLocalOptimum());
    x.step();
    Checks.due("a held move costs one less", false, x.isLocalOptimum());
    TabuSolver y = Samples.stuck();
    Checks.due("all moves are held and cost more", true, y.isLocalOptimum());
    TabuSolver z = with(SETS, Checks.solver(2, 2), 0, 0);
    z.addConstraint(2, 3, 0, 1);
    z.step();
    z.step();
    Checks.due("values", "11", Checks.values(z));
    Checks.due("all moves are held", 2, z.moves(true));
    Checks.due("and cost less", false, z.isLocalOptimum());
  }

  private static void localOptimumByTheNeighborhood() {
    Checks.sentence("26: Returns whether the present values are a local optimum");
    // The second value must be greater than the first one.
    for (int kinds = 0; kinds < 16; kinds++) {
      TabuSolver x = with(kinds, Checks.solver(3, 3), 2, 0);
      x.addConstraint(3, 3, 1, 1);
      Checks.due("only the swap mends it, kinds " + kinds, (kinds & SWAPS) == 0, x.isLocalOptimum());
      Checks.due("values stay", "20", Checks.values(x));
    }
  }
}
