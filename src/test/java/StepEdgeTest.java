import java.math.BigInteger;
import java.util.List;
import java.util.NoSuchElementException;

/** What the document's sentences on steps, restarts, the log and promises 27 to 34 name as boundary cases. */
public final class StepEdgeTest {
  private static final int EQUAL = 2;
  private static final int SETS = 1;
  private static final int SWAPS = 2;
  private static final int SHIFTS = 4;
  // The seeds that become 0, 65535, 65536, 131071, 2147483647 and 2147418112.
  private static final int TO_0 = 2088216195;
  private static final int TO_65535 = 2032319262;
  private static final int TO_65536 = 1742513795;
  private static final int TO_131071 = 1686616862;
  private static final int TO_GREATEST = 230538014;
  private static final int TO_GREATEST_SHIFTED = 286434947;

  public static void main(String[] args) {
    stepMakesTheLeastCost();
    stepPassesOverHeldMoves();
    stepWithoutAMove();
    stepsWithoutImprovement();
    equalCostIsNoImprovement();
    patienceIsReached();
    patienceAtFirst();
    improvementAtTheLastStep();
    patienceSetToLess();
    patienceSetToLessAndImprovement();
    restartOfAStep();
    restartGivesValuesBySeeds();
    restartBySeedsAtTheEnds();
    restartGoesOnWithTheSeed();
    restartOfNothing();
    restartToEqualCost();
    restartToLessCost();
    restartToGreaterCost();
    restartForbidsNothing();
    runOfOneAndThirty();
    runStopsAtCostZero();
    runFromCostZero();
    runStopsWithoutMoves();
    runGoesThroughRestarts();
    descendToALocalOptimum();
    descendByHeldMoves();
    descendToTheFirstOfSeveral();
    descendToANewBest();
    descendNotToANewBest();
    searchNumbers();
    logOfNothing();
    logOfForty();
    logOfEachKind();
    logHoldsStepsAlone();
    logAheadOfRestart();
    sharesOfImprovement();
    sharesCompareWithRightAhead();
    sharesOfTheLastForty();
    searchBegins();
    searchBeginsByEqualChanges();
    Checks.finish("StepEdgeTest");
  }

  /** Variables of size 8 whose first two are to have a sum. */
  private static TabuSolver summing(int kinds, int sum, int... values) {
    TabuSolver x = new TabuSolver();
    for (int v = 0; v < values.length; v++) {
      x.addVariable(8);
    }
    Checks.withValues(x, values);
    x.addConstraint(EQUAL, 3, sum, 1);
    x.setNeighborhood(kinds);
    return x;
  }

  /** All costs are 0, so that no step improves, and there is always a move that is not held. */
  private static TabuSolver wanderer() {
    TabuSolver x = Checks.solver(8, 8, 8);
    x.setNeighborhood(SETS);
    x.setTenure(0);
    return x;
  }

  private static void steps(TabuSolver x, int number) {
    for (int i = 0; i < number; i++) {
      x.step();
    }
  }

  private static String numbers(TabuSolver x) {
    return x.search(0) + " " + x.search(1) + " " + x.search(2) + " " + x.search(4);
  }

  private static void stepMakesTheLeastCost() {
    Checks.sentence("D, 27: the one with the least cost; of several, the first one in their order");
    TabuSolver x = summing(15, 9, 0, 0);
    Checks.due("cost", 2, x.step());
    Checks.due("the first set to 7, not the second one", "70", Checks.values(x));
    Checks.due("the next least cost", 0, x.step());
    Checks.due("by a set, not by two shifts", "72", Checks.values(x));
    Checks.due("a step away from cost 0", 0, x.step());
    Checks.due("the swap keeps cost 0", "27", Checks.values(x));
    Checks.due("the swap is in the log", "1:0,1,-1", Checks.logged(x, 2));
    TabuSolver y = summing(SHIFTS, 9, 5, 5);
    Checks.due("the first shift down", 0, y.step());
    Checks.due("values of y", "45", Checks.values(y));
  }

  private static void stepPassesOverHeldMoves() {
    Checks.sentence("27: among the possible moves that are not held");
    TabuSolver x = summing(SHIFTS, 0, 0, 0);
    Checks.due("a step up", 1, x.step());
    Checks.due("values", "10", Checks.values(x));
    Checks.due("the way back costs least", 0, x.move(0, 4));
    Checks.due("but it is held", 1, x.move(0, 5));
    Checks.due("the next one is made", 2, x.step());
    Checks.due("values then", "20", Checks.values(x));
  }

  private static void stepWithoutAMove() {
    Checks.sentence("27: Throws NoSuchElementException if there is no possible move that is not held");
    Checks.fails("no variables", NoSuchElementException.class, () -> new TabuSolver().step());
    Checks.fails("no kinds", NoSuchElementException.class, () -> summing(0, 1, 0, 0).step());
    Checks.fails("no swap", NoSuchElementException.class, () -> summing(SWAPS, 1, 0, 0).step());
    Checks.fails("all held", NoSuchElementException.class, () -> Samples.stuck().step());
    TabuSolver x = Samples.stuck();
    Checks.outcome(x::step);
    Checks.due("numbers stay", "2 0 0 2", numbers(x));
    Checks.due("values stay", "11", Checks.values(x));
    Checks.due("the log stays", 2, x.logSize());
    x.restart();
    Checks.due("a step after a restart", 1, x.step());
  }

  private static void stepsWithoutImprovement() {
    Checks.sentence("D: If the best cost becomes less .. becomes 0; otherwise it increases by 1");
    TabuSolver x = summing(SETS, 14, 0, 0);
    Checks.due("at first", 0, x.search(1));
    x.step();
    Checks.due("after an improvement", 0, x.search(1));
    x.step();
    Checks.due("after a second one", 0, x.search(1));
    Checks.due("cost", 0, x.cost());
    for (int i = 1; i <= 5; i++) {
      x.step();
      Checks.due("without one", i, x.search(1));
    }
    TabuSolver y = summing(SHIFTS, 10, 7, 6);
    y.step();
    y.takeBest();
    Checks.due("takeBest leaves the number", 0, y.search(1));
    TabuSolver z = summing(SHIFTS, 3, 3, 0);
    z.step();
    z.step();
    Checks.due("away from the best cost", 2, z.search(1));
    z.setNeighborhood(SETS);
    z.addConstraint(EQUAL, 3, 5, 1);
    Checks.due("the search begins", 0, z.search(1));
  }

  private static void equalCostIsNoImprovement() {
    Checks.sentence("D: If the best cost becomes less by that");
    TabuSolver x = summing(SWAPS, 3, 1, 0);
    x.step();
    Checks.due("the best cost again", 2, x.cost());
    Checks.due("is a step without improvement", 1, x.search(1));
    TabuSolver y = summing(SHIFTS, 4, 1, 0);
    y.setPatience(2);
    y.step();
    Checks.due("a less cost", 2, y.cost());
    Checks.due("is none", 0, y.search(1));
    TabuSolver z = summing(SHIFTS, 0, 0, 0);
    z.step();
    z.step();
    z.setNeighborhood(SETS);
    z.step();
    Checks.due("a cost less than the last, not than the best one", 3, z.search(1));
  }

  private static void patienceIsReached() {
    Checks.sentence("D: If it reaches the patience, from 1 to 100, .. a restart follows at once");
    for (int patience : new int[] {1, 2, 3, 19, 20, 21, 99, 100}) {
      TabuSolver x = wanderer();
      x.setPatience(patience);
      steps(x, patience - 1);
      Checks.due("numbers ahead of it", patience - 1 + " " + (patience - 1) + " 0 0", numbers(x));
      x.step();
      Checks.due("numbers then", patience + " 0 1 0", numbers(x));
      Checks.due("values by the seed 1", "661", Checks.values(x));
      steps(x, patience - 1);
      Checks.due("restarts ahead of the second", 1, x.search(2));
      x.step();
      Checks.due("the second restart", 2, x.search(2));
    }
  }

  private static void patienceAtFirst() {
    Checks.sentence("D: the patience, from 1 to 100, at first 20");
    TabuSolver x = wanderer();
    steps(x, 19);
    Checks.due("after 19 steps", "19 19 0 0", numbers(x));
    x.step();
    Checks.due("after 20 steps", "20 0 1 0", numbers(x));
  }

  private static void improvementAtTheLastStep() {
    Checks.sentence("D: If the best cost becomes less by that, the number .. becomes 0");
    TabuSolver x = summing(SWAPS, 14, 0, 1);
    x.setPatience(2);
    x.step();
    Checks.due("one step without improvement", 1, x.search(1));
    x.setNeighborhood(SETS);
    x.step();
    Checks.due("then an improvement", "2 0 0 2", numbers(x));
    x.step();
    Checks.due("another one", "3 0 0 3", numbers(x));
    x.step();
    Checks.due("one step without", "4 1 0 3", numbers(x));
    x.step();
    Checks.due("the restart", "5 0 1 3", numbers(x));
  }

  private static void patienceSetToLess() {
    Checks.sentence("D: If the patience is set to no more than the number of steps without improvement, the restart ..");
    for (int patience = 1; patience <= 7; patience++) {
      TabuSolver x = wanderer();
      steps(x, 5);
      x.setPatience(patience);
      Checks.due("no restart by setPatience(" + patience + ")", "5 5 0 0", numbers(x));
      x.step();
      boolean isRestarted = patience <= 6;
      Checks.due("after the next step", isRestarted ? "6 0 1 0" : "6 6 0 0", numbers(x));
    }
  }

  private static void patienceSetToLessAndImprovement() {
    Checks.sentence("D: the restart follows the next step that does not improve the best cost");
    for (int patience = 1; patience <= 2; patience++) {
      TabuSolver x = summing(SHIFTS, 3, 7, 7);
      x.setNeighborhood(SWAPS);
      x.setValue(0, 6);
      x.step();
      x.setTenure(0);
      x.setPatience(patience);
      Checks.due("one step without improvement", 1, x.search(1));
      x.setNeighborhood(SETS);
      x.step();
      Checks.due("an improvement is not followed by a restart", "2 0 0 2", numbers(x));
      x.step();
      Checks.due("another one", "3 0 0 3", numbers(x));
      x.step();
      Checks.due("a step without", patience == 1 ? "4 0 1 3" : "4 1 0 3", numbers(x));
    }
  }

  private static void restartOfAStep() {
    Checks.sentence("27: Returns the cost then, after a restart if there was one");
    TabuSolver x = summing(SWAPS, 10, 0, 1);
    x.setPatience(1);
    Checks.due("the cost of 6 and 6", 2, x.step());
    Checks.due("values", "66", Checks.values(x));
    Checks.due("cost", 2, x.cost());
    Checks.due("the move's own cost", 9, x.log(0, 4));
    Checks.due("the restart has the best cost, at the step's iteration", "1 0 1 1", numbers(x));
    Checks.due("best cost", 2, x.bestCost());
    Checks.due("best values", "66", Checks.bestValues(x));
    Checks.due("the values that the step left are free", false, x.isForbidden(0, 0) || x.isForbidden(1, 1));
  }

  private static void restartGivesValuesBySeeds() {
    Checks.sentence("D: the seed times 1103515245 plus 12345, of which the lowest 31 bits count, .. modulo the domain size");
    int[] seeds = {0, 1, 2, 12345, 65535, 65536, 1 << 30, 1103527590, 2147483646, 2147483647,
        TO_0, TO_65535, TO_65536, TO_131071, TO_GREATEST, TO_GREATEST_SHIFTED};
    int[][] sizes = {{2, 3, 4, 5, 6, 7, 8}, {8, 8, 8, 8, 8, 8, 8, 8, 8, 8}, {7, 5, 3}, {6}, {2}};
    for (int seed : seeds) {
      for (int[] row : sizes) {
        TabuSolver x = Checks.solver(row);
        x.setSeed(seed);
        x.restart();
        BigInteger next = BigInteger.valueOf(seed);
        StringBuilder due = new StringBuilder();
        for (int size : row) {
          next = next.multiply(BigInteger.valueOf(1103515245)).add(BigInteger.valueOf(12345)).mod(BigInteger.TWO.pow(31));
          due.append(next.divide(BigInteger.valueOf(65536)).mod(BigInteger.valueOf(size)));
        }
        Checks.due("values by the seed " + seed, due.toString(), Checks.values(x));
        Checks.due("the seed then", next.intValueExact(), x.search(3));
      }
    }
  }

  private static void restartBySeedsAtTheEnds() {
    Checks.sentence("D: the value is the seed, shifted to the right by 16 bits, modulo the domain size");
    int[] seeds = {TO_0, TO_65535, TO_65536, TO_131071, TO_GREATEST, TO_GREATEST_SHIFTED};
    int[] next = {0, 65535, 65536, 131071, 2147483647, 2147418112};
    int[] values = {0, 0, 1, 1, 7, 7};
    for (int i = 0; i < seeds.length; i++) {
      TabuSolver x = Checks.solver(8);
      x.setSeed(seeds[i]);
      x.restart();
      Checks.due("the seed after " + seeds[i], next[i], x.search(3));
      Checks.due("the value", values[i], x.variable(0, 1));
    }
  }

  private static void restartGoesOnWithTheSeed() {
    Checks.sentence("D: for the variables in ascending order, the seed .. becomes");
    TabuSolver x = Checks.solver(8, 8, 8);
    x.restart();
    Checks.due("the first three", "661", Checks.values(x));
    x.restart();
    Checks.due("the next three", "333", Checks.values(x));
    x.setSeed(1);
    x.restart();
    Checks.due("from the first one again", "661", Checks.values(x));
    x.setValue(0, 0);
    x.restart();
    Checks.due("the search's beginning leaves the seed", "333", Checks.values(x));
    x.clear();
    Checks.due("clear does not", 1, x.search(3));
  }

  private static void restartOfNothing() {
    Checks.sentence("30: Makes a restart; 27: without variables");
    TabuSolver x = new TabuSolver();
    Checks.due("cost", 0, x.restart());
    Checks.due("no seed was taken", 1, x.search(3));
    Checks.due("restarts", 1, x.search(2));
    x.restart();
    Checks.due("restarts again", 2, x.search(2));
    Checks.due("numbers", "0 0 2 0", numbers(x));
  }

  private static void restartToEqualCost() {
    Checks.sentence("D: A restart changes neither the best values, unless the cost is less");
    TabuSolver x = summing(15, 9, 7, 5);
    Checks.due("the cost as before", 3, x.restart());
    Checks.due("values", "66", Checks.values(x));
    Checks.due("best values stay", "75", Checks.bestValues(x));
    Checks.due("numbers", "0 0 1 0", numbers(x));
  }

  private static void restartToLessCost() {
    Checks.sentence("D: a new best cost by it or by a descent is reached at the iteration number as it stands");
    TabuSolver x = summing(15, 12, 7, 4);
    Checks.due("one less", 0, x.restart());
    Checks.due("best values", "66", Checks.bestValues(x));
    Checks.due("best cost", 0, x.bestCost());
    Checks.due("without any step, that number is 0", "0 0 1 0", numbers(x));
    TabuSolver y = summing(SWAPS, 12, 1, 0);
    steps(y, 1);
    y.setNeighborhood(SHIFTS);
    y.setTenure(20);
    Checks.due("ahead of the restart", "1 1 0 0", numbers(y));
    y.restart();
    Checks.due("at the iteration 1", "1 0 1 1", numbers(y));
    Checks.due("best values of y", "66", Checks.bestValues(y));
  }

  private static void restartToGreaterCost() {
    Checks.sentence("D: A restart changes neither the best values, .. nor the iteration number");
    TabuSolver x = summing(SETS, 0, 1, 1);
    steps(x, 3);
    String ahead = x.search(0) + " " + x.search(4) + " " + Checks.bestValues(x) + " " + x.bestCost() + " " + x.logSize();
    Checks.due("ahead", "3 2 00 0 3", ahead);
    Checks.due("a greater cost", 12, x.restart());
    String then = x.search(0) + " " + x.search(4) + " " + Checks.bestValues(x) + " " + x.bestCost() + " " + x.logSize();
    Checks.due("best values, iteration and log stay", ahead, then);
    Checks.due("steps without improvement", 0, x.search(1));
  }

  private static void restartForbidsNothing() {
    Checks.sentence("D: nothing is forbidden after it, and the number of steps without improvement is 0");
    TabuSolver x = Checks.solver(8, 8, 8, 8, 8, 8, 8, 8, 8, 8);
    x.setNeighborhood(SETS);
    x.setTenure(20);
    x.setPatience(100);
    steps(x, 20);
    Checks.due("held moves ahead", true, x.moves(true) > 10);
    Checks.due("steps without improvement ahead", 20, x.search(1));
    x.restart();
    for (int v = 0; v < 10; v++) {
      for (int value = 0; value < 8; value++) {
        Checks.due(value + " for " + v, false, x.isForbidden(v, value));
      }
    }
    Checks.due("no held moves", 0, x.moves(true));
    Checks.due("steps without improvement", 0, x.search(1));
    x.step();
    Checks.due("a value is forbidden by the next step", 1, x.moves(true));
  }

  private static void runOfOneAndThirty() {
    Checks.sentence("28: the greatest number of steps, 1 to 30");
    for (int number : new int[] {1, 2, 29, 30}) {
      TabuSolver x = summing(SETS, 50, 0, 0);
      TabuSolver y = summing(SETS, 50, 0, 0);
      Checks.due("run(" + number + ")", number, x.run(number));
      steps(y, number);
      Checks.due("the iteration", number, x.search(0));
      Checks.due("the same as steps", Checks.values(y) + numbers(y), Checks.values(x) + numbers(x));
      Checks.due("the log", y.logSize(), x.logSize());
    }
    Checks.fails("run(0)", IllegalArgumentException.class, () -> summing(SETS, 50, 0, 0).run(0));
    Checks.fails("run(31)", IllegalArgumentException.class, () -> summing(SETS, 50, 0, 0).run(31));
  }

  private static void runStopsAtCostZero() {
    Checks.sentence("28: until a number of them has been made, the cost is 0, or there is no possible move");
    TabuSolver x = summing(SHIFTS, 3, 0, 0);
    Checks.due("three shifts of thirty", 3, x.run(30));
    Checks.due("cost", 0, x.cost());
    Checks.due("iteration", 3, x.search(0));
    TabuSolver y = summing(SHIFTS, 3, 0, 0);
    Checks.due("three shifts of three", 3, y.run(3));
    Checks.due("cost of y", 0, y.cost());
    TabuSolver z = summing(SHIFTS, 3, 0, 0);
    Checks.due("two shifts of two", 2, z.run(2));
    Checks.due("cost of z", 1, z.cost());
    Checks.due("and one", 1, z.run(30));
  }

  private static void runFromCostZero() {
    Checks.sentence("D: run makes no step if the cost is 0 at first");
    TabuSolver x = summing(SETS, 0, 0, 0);
    Checks.due("no step", 0, x.run(1));
    Checks.due("no step of thirty", 0, x.run(30));
    Checks.due("numbers", "0 0 0 0", numbers(x));
    Checks.due("log", 0, x.logSize());
    Checks.due("a step is made, though", 1, x.step());
    Checks.due("run goes on from cost 1", true, x.run(30) > 0);
    Checks.due("without constraints", 0, Checks.solver(3, 3).run(30));
    Checks.due("without variables", 0, new TabuSolver().run(30));
  }

  private static void runStopsWithoutMoves() {
    Checks.sentence("28: or there is no possible move that is not held");
    TabuSolver x = Checks.solver(2, 2);
    x.addConstraint(EQUAL, 3, 50, 1);
    x.setNeighborhood(SETS);
    Checks.due("two steps, then all is held", 2, x.run(30));
    Checks.due("none then", 0, x.run(30));
    Checks.due("numbers", "2 0 0 2", numbers(x));
    x.setNeighborhood(0);
    x.restart();
    Checks.due("no kinds", 0, x.run(30));
    TabuSolver y = summing(SWAPS, 50, 4, 3);
    Checks.due("one swap", 1, y.run(30));
  }

  private static void runGoesThroughRestarts() {
    Checks.sentence("28: Makes steps; D: a restart follows at once");
    TabuSolver x = summing(SETS, 50, 7, 7);
    x.setPatience(3);
    Checks.due("thirty steps", 30, x.run(30));
    Checks.due("a restart after each third", "30 0 10 0", numbers(x));
    TabuSolver y = summing(SWAPS, 12, 0, 1);
    y.setPatience(1);
    Checks.due("the restart reaches cost 0", 1, y.run(30));
    Checks.due("numbers", "1 0 1 1", numbers(y));
    Checks.due("values", "66", Checks.values(y));
  }

  private static void descendToALocalOptimum() {
    Checks.sentence("29: as long as a possible move, held or not, has a cost less than the present one");
    Checks.due("without variables", 0, new TabuSolver().descend());
    Checks.due("without constraints", 0, Checks.solver(4, 4).descend());
    Checks.due("without kinds", 0, summing(0, 9, 0, 0).descend());
    Checks.due("at cost 0", 0, summing(15, 0, 0, 0).descend());
    TabuSolver x = summing(SHIFTS, 3, 0, 0);
    Checks.due("three shifts", 3, x.descend());
    Checks.due("cost", 0, x.cost());
    Checks.due("none then", 0, x.descend());
    TabuSolver y = summing(SWAPS, 9, 4, 0);
    Checks.due("no move to an equal cost", 0, y.descend());
    Checks.due("values stay", "40", Checks.values(y));
    TabuSolver z = summing(SETS, 50, 0, 0);
    Checks.due("to a cost that is not 0", 2, z.descend());
    Checks.due("its cost", 36, z.cost());
    Checks.due("it is a local optimum", true, z.isLocalOptimum());
  }

  private static void descendByHeldMoves() {
    Checks.sentence("29: held or not");
    TabuSolver x = summing(SHIFTS, 0, 0, 0);
    steps(x, 2);
    Checks.due("values", "20", Checks.values(x));
    Checks.due("the way down is held", 1, x.move(0, 5));
    Checks.due("descend", 2, x.descend());
    Checks.due("values then", "00", Checks.values(x));
    Checks.sentence("29: Nothing becomes forbidden by that, the log and the iteration number do not change");
    Checks.due("forbidden still", true, x.isForbidden(0, 0) && x.isForbidden(0, 1));
    Checks.due("not forbidden by it", false, x.isForbidden(0, 2));
    Checks.due("the log", 2, x.logSize());
    Checks.due("the numbers", "2 2 0 0", numbers(x));
  }

  private static void descendToTheFirstOfSeveral() {
    Checks.sentence("29: the one with the least cost, the first one of several, is made");
    TabuSolver x = summing(15, 9, 3, 3);
    Checks.due("one move", 1, x.descend());
    Checks.due("the first of two with cost 0", "63", Checks.values(x));
    TabuSolver y = summing(15, 9, 0, 0);
    Checks.due("two moves", 2, y.descend());
    Checks.due("the greatest step first", "72", Checks.values(y));
  }

  private static void descendToANewBest() {
    Checks.sentence("D: Values that variables have .. in a descent, count, too; 29: steps without improvement");
    TabuSolver x = summing(SWAPS, 12, 1, 0);
    x.step();
    x.setNeighborhood(SETS);
    Checks.due("ahead", "1 1 0 0", numbers(x));
    Checks.due("two moves", 2, x.descend());
    Checks.due("best cost", 0, x.bestCost());
    Checks.due("best values", Checks.values(x), Checks.bestValues(x));
    Checks.due("the steps without improvement stay, the best iteration is 1", "1 1 0 1", numbers(x));
    TabuSolver y = summing(SETS, 12, 1, 0);
    y.descend();
    Checks.due("without any step, that number is 0", "0 0 0 0", numbers(y));
    Checks.due("best cost of y", 0, y.bestCost());
  }

  private static void descendNotToANewBest() {
    Checks.sentence("D: the best values, .. the first ones of several");
    TabuSolver x = summing(SETS, 3, 3, 0);
    x.step();
    Checks.due("a step away", "20", Checks.values(x));
    x.setNeighborhood(SHIFTS);
    Checks.due("the shift up is held but first", 1, x.descend());
    Checks.due("back", "30", Checks.values(x));
    x.setNeighborhood(SETS);
    x.step();
    x.step();
    Checks.due("cost 0 by other values", 0, x.cost());
    Checks.due("the first ones stay", "30", Checks.bestValues(x));
    Checks.due("since the beginning", 0, x.search(4));
  }

  private static void searchNumbers() {
    Checks.sentence("31: 2 for the number of restarts since the search began, 4 for the iteration number when ..");
    TabuSolver x = summing(SETS, 14, 0, 0);
    Checks.due("at first", "0 0 0 0", numbers(x));
    steps(x, 3);
    x.restart();
    x.restart();
    Checks.due("after three steps and two restarts", "3 0 2 2", numbers(x));
    x.step();
    Checks.due("after one more", "4 1 2 2", numbers(x));
    x.setValue(0, 3);
    Checks.due("after a value by hand", "0 0 0 0", numbers(x));
    Checks.fails("search(-1)", IllegalArgumentException.class, () -> x.search(-1));
    Checks.fails("search(5)", IllegalArgumentException.class, () -> x.search(5));
  }

  private static void logOfNothing() {
    Checks.sentence("32: Returns 0 to 40; 33: if there is no such move");
    TabuSolver x = wanderer();
    Checks.due("at first", 0, x.logSize());
    Checks.fails("log(0, 0)", IndexOutOfBoundsException.class, () -> x.log(0, 0));
    x.step();
    Checks.due("after a step", 1, x.logSize());
    Checks.due("its iteration", 1, x.log(0, 5));
    Checks.fails("log(1, 0)", IndexOutOfBoundsException.class, () -> x.log(1, 0));
    Checks.fails("log(-1, 0)", IndexOutOfBoundsException.class, () -> x.log(-1, 0));
    Checks.fails("log(0, -1)", IllegalArgumentException.class, () -> x.log(0, -1));
    Checks.fails("log(0, 6)", IllegalArgumentException.class, () -> x.log(0, 6));
  }

  private static void logOfForty() {
    Checks.sentence("D: The log holds the last 40 moves that steps made, in their order");
    for (int made : new int[] {1, 39, 40, 41, 42, 79, 80, 81, 119, 120, 121}) {
      TabuSolver x = wanderer();
      int[] values = new int[made];
      for (int i = 0; i < made; i++) {
        values[i] = x.move(x.nextMove(), 2);
        x.step();
      }
      int size = Math.min(made, 40);
      Checks.due("size after " + made, size, x.logSize());
      for (int i = 0; i < size; i++) {
        Checks.due("iteration of " + i + " after " + made, made - size + i + 1, x.log(i, 5));
        Checks.due("value of " + i + " after " + made, values[made - size + i], x.log(i, 2));
      }
      Checks.fails("beyond it", IndexOutOfBoundsException.class, () -> x.log(size, 0));
    }
    TabuSolver y = wanderer();
    steps(y, 400);
    Checks.due("size after 400", 40, y.logSize());
    for (int i = 0; i < 40; i++) {
      Checks.due("iteration of " + i + " after 400", 361 + i, y.log(i, 5));
    }
  }

  private static void logOfEachKind() {
    Checks.sentence("33: 0 for its kind, 1 to 3 for its numbers a to c, 4 for its cost, 5 for the iteration number");
    TabuSolver x = Checks.withValues(Checks.solver(5, 5, 5), 1, 2, 3);
    x.addConstraint(EQUAL, 7, 0, 2);
    x.setTenure(0);
    String[] due = {"0:2,0,-1", "1:0,1,-1", "2:0,0,-1", "3:0,1,2"};
    int[] costs = {6, 6, 4, 4};
    for (int kind = 0; kind < 4; kind++) {
      x.setNeighborhood(1 << kind);
      Checks.due("cost of kind " + kind, costs[kind], x.step());
      Checks.due("move of kind " + kind, due[kind], Checks.logged(x, kind));
      Checks.due("cost in the log", costs[kind], x.log(kind, 4));
      Checks.due("iteration in the log", kind + 1, x.log(kind, 5));
    }
  }

  private static void logHoldsStepsAlone() {
    Checks.sentence("D: the last 40 moves that steps made");
    TabuSolver x = summing(SETS, 9, 0, 0);
    x.descend();
    x.restart();
    x.takeBest();
    Checks.due("not those of a descent", 0, x.logSize());
    x.restart();
    x.run(1);
    Checks.due("but those of run", 1, x.logSize());
    x.restart();
    x.descend();
    Checks.due("a restart leaves them", 1, x.logSize());
    x.setValue(1, x.variable(1, 1));
    Checks.due("a value by hand does not", 0, x.logSize());
    Checks.fails("log(0, 0)", IndexOutOfBoundsException.class, () -> x.log(0, 0));
  }

  private static void logAheadOfRestart() {
    Checks.sentence("D: The cost of a move in the log is that ahead of a restart");
    TabuSolver x = summing(SWAPS, 14, 0, 1);
    x.setPatience(1);
    Checks.due("the cost after the restart", 2, x.step());
    Checks.due("the cost in the log", 13, x.log(0, 4));
    Checks.due("its iteration", 1, x.log(0, 5));
    Checks.due("the move in the log", "1:0,1,-1", Checks.logged(x, 0));
  }

  private static void sharesOfImprovement() {
    Checks.sentence("34: Returns the share of moves in the log with a cost less than that of the cost before them");
    TabuSolver x = summing(SHIFTS, 2, 0, 0);
    Checks.fails("empty log", ArithmeticException.class, x::improvingShare);
    x.step();
    Checks.due("one of one", 1.0, x.improvingShare());
    x.step();
    Checks.due("two of two", 1.0, x.improvingShare());
    x.step();
    Checks.due("two of three", 2.0 / 3.0, x.improvingShare());
    TabuSolver away = summing(SETS, 3, 2, 0);
    double[] shares = {1.0, 1.0 / 2.0, 1.0 / 3.0, 2.0 / 4.0};
    int[] costs = {0, 1, 2, 0};
    for (int i = 0; i < 4; i++) {
      Checks.due("cost " + i, costs[i], away.step());
      Checks.due("less than the last cost, not than the best one", shares[i], away.improvingShare());
    }
    TabuSolver y = summing(SWAPS, 9, 1, 0);
    y.step();
    Checks.due("an equal cost is not less", 0.0, y.improvingShare());
    TabuSolver z = summing(SHIFTS, 0, 0, 0);
    z.step();
    z.step();
    z.setNeighborhood(SETS);
    z.addConstraint(0, 3, 0, 1);
    Checks.fails("the search begins", ArithmeticException.class, z::improvingShare);
  }

  private static void sharesCompareWithRightAhead() {
    Checks.sentence("D: improvingShare compares it with the cost right ahead of the move");
    TabuSolver x = summing(SWAPS, 1, 0, 1);
    x.setPatience(1);
    x.step();
    Checks.due("6 and 6 after a restart", 11, x.cost());
    x.setNeighborhood(SHIFTS);
    x.step();
    Checks.due("10 after a shift", 10, x.log(1, 4));
    Checks.due("less than 11, though not than the 0 in the log", 0.5, x.improvingShare());
    TabuSolver y = summing(SETS, 3, 2, 0);
    steps(y, 3);
    Checks.due("costs in the log", "0 1 2", y.log(0, 4) + " " + y.log(1, 4) + " " + y.log(2, 4));
    y.takeBest();
    Checks.due("a step from cost 0", 1, y.step());
    Checks.due("less than the 2 in the log, though not than 0", 1.0 / 4.0, y.improvingShare());
    y.setNeighborhood(SETS | SHIFTS);
    y.restart();
    y.descend();
    Checks.due("descents and restarts leave the share", 1.0 / 4.0, y.improvingShare());
  }

  private static void sharesOfTheLastForty() {
    Checks.sentence("34: their number divided by the number of moves in the log, both converted to double");
    TabuSolver x = Checks.solver(8, 8, 8, 2);
    x.addConstraint(4, 8 | 4, 0, 1);
    x.setNeighborhood(SETS);
    x.setTenure(0);
    x.setPatience(100);
    x.addConstraint(1, 3, 50, 1);
    x.step();
    x.step();
    Checks.due("two improve", 1.0, x.improvingShare());
    steps(x, 38);
    Checks.due("two of forty", 2.0 / 40.0, x.improvingShare());
    x.step();
    Checks.due("one of forty", 1.0 / 40.0, x.improvingShare());
    x.step();
    Checks.due("none of forty", 0.0, x.improvingShare());
  }

  private static void hasBegun(String what, TabuSolver x) {
    Checks.due(what + ": numbers", "0 0 0 0", numbers(x));
    Checks.due(what + ": log", 0, x.logSize());
    Checks.due(what + ": best values", Checks.values(x), Checks.bestValues(x));
    Checks.due(what + ": best cost", x.cost(), x.bestCost());
    Checks.due(what + ": held moves", 0, x.moves(true));
    for (int v = 0; v < x.count(0); v++) {
      for (int value = 0; value < x.variable(v, 0); value++) {
        Checks.due(what + ": " + value + " for " + v, false, x.isForbidden(v, value));
      }
    }
  }

  private static void searchBegins() {
    Checks.sentence("D: The search begins whenever a variable or constraint is added, removed or changed, or values are ..");
    List<Portrait.Use> changes = List.of(x -> x.addVariable(3), x -> x.setDomain(0, 2), x -> x.setDomain(1, 6),
        x -> x.addConstraint(0, 3, 0, 1), x -> x.addConstraint(1, 3, 50, 1), x -> x.removeConstraint(0),
        x -> x.removeConstraint(1), x -> x.setWeight(0, 9), x -> x.setValue(0, 2), x -> x.append(';') + x.read(),
        TabuSolver::undo, TabuSolver::restore, TabuSolver::clear);
    for (int i = 0; i < changes.size(); i++) {
      TabuSolver x = Samples.ordinary();
      Checks.due("numbers ahead", "5 3 1 2", numbers(x));
      changes.get(i).on(x);
      hasBegun("change " + i, x);
      while (x.count(0) < 3) {
        x.addVariable(5);
      }
      hasBegun("change " + i + " and three variables", x);
    }
  }

  private static void searchBeginsByEqualChanges() {
    Checks.sentence("D: The search also begins when a value, size, weight or constraint is set to what it is already");
    hasBegunAfter("setValue", x -> x.setValue(1, x.variable(1, 1)));
    hasBegunAfter("setDomain", x -> x.setDomain(1, 5));
    hasBegunAfter("setWeight", x -> x.setWeight(1, 4));
  }

  private static void hasBegunAfter(String what, Portrait.Use change) {
    TabuSolver x = Samples.ordinary();
    String values = Checks.values(x);
    change.on(x);
    hasBegun(what, x);
    Checks.due(what + ": values", values, Checks.values(x));
  }
}
