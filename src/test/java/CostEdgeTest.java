/** What the document's sentences on violations, the best values and promises 12 to 17 name as boundary cases. */
public final class CostEdgeTest {
  private static final int DIFFERENT = 0;
  private static final int AT_MOST = 1;
  private static final int EQUAL = 2;
  private static final int ASCENDING = 3;
  private static final int COUNT = 4;
  private static final int APART = 5;

  public static void main(String[] args) {
    differentPairs();
    atMostTurnsAtTheNumber();
    equalTurnsAtTheNumber();
    ascendingTurnsAtTheNumber();
    ascendingLeavesOutTheFirst();
    ascendingGoesByMembers();
    countOfZeros();
    apartTurnsAtTheNumber();
    costOfNothing();
    greatestCost();
    bestIsTheFirstOfSeveral();
    violationOfEitherValues();
    blameOfTheLowestNumber();
    blameOfOne();
    reliefOfEachSign();
    reliefLooksAtAllValues();
    reliefWithoutNeighborhood();
    takeBestOfThePresent();
    takeBestLeavesTheRest();
    takeBestAfterARestart();
    Checks.finish("CostEdgeTest");
  }

  /** The violation where all variables are members. */
  private static int violation(int kind, int number, int... values) {
    return violationOf((1 << values.length) - 1, kind, number, values);
  }

  private static int violationOf(int members, int kind, int number, int... values) {
    TabuSolver x = new TabuSolver();
    for (int v = 0; v < values.length; v++) {
      x.addVariable(8);
    }
    Checks.withValues(x, values);
    x.addConstraint(kind, members, number, 1);
    Checks.due("the cost is the violation at weight 1", x.cost(), x.violation(0, false));
    Checks.due("so is the best one", x.bestCost(), x.violation(0, true));
    return x.violation(0, false);
  }

  private static void differentPairs() {
    Checks.sentence("D: 0 different: the number of pairs of members with the same value");
    Checks.due("two different ones", 0, violation(DIFFERENT, 0, 3, 4));
    Checks.due("two equal ones", 1, violation(DIFFERENT, 0, 7, 7));
    Checks.due("two equal ones far away", 1, violation(DIFFERENT, 0, 5, 1, 2, 3, 4, 0, 6, 7, 5));
    Checks.due("three equal ones are three pairs", 3, violation(DIFFERENT, 0, 0, 0, 0));
    Checks.due("two pairs", 2, violation(DIFFERENT, 0, 1, 2, 2, 1));
    Checks.due("all pairs of ten", 45, violation(DIFFERENT, 0, 0, 0, 0, 0, 0, 0, 0, 0, 0, 0));
    Checks.due("ten in eight values", 2, violation(DIFFERENT, 0, 0, 1, 2, 3, 4, 5, 6, 7, 0, 7));
    Checks.due("the number does not count", 1, violation(DIFFERENT, 50, 3, 3));
    Checks.due("a negative number does not count", 1, violation(DIFFERENT, -50, 3, 3));
    Checks.due("others do not count", 0, violationOf(6, DIFFERENT, 0, 3, 3, 4, 4));
  }

  private static void atMostTurnsAtTheNumber() {
    Checks.sentence("D: 1 at most: the sum .. minus the number, or 0 if that is negative");
    Checks.due("one less than the number", 0, violation(AT_MOST, 8, 3, 4));
    Checks.due("the number itself", 0, violation(AT_MOST, 7, 3, 4));
    Checks.due("one more than the number", 1, violation(AT_MOST, 6, 3, 4));
    Checks.due("far less", 0, violation(AT_MOST, 50, 0, 0));
    Checks.due("sum 0, number 0", 0, violation(AT_MOST, 0, 0, 0));
    Checks.due("sum 0, number -1", 1, violation(AT_MOST, -1, 0, 0));
    Checks.due("sum 0, number -50", 50, violation(AT_MOST, -50, 0, 0));
    Checks.due("sum 70, number 50", 20, violation(AT_MOST, 50, 7, 7, 7, 7, 7, 7, 7, 7, 7, 7));
    Checks.due("sum 70, number -50", 120, violation(AT_MOST, -50, 7, 7, 7, 7, 7, 7, 7, 7, 7, 7));
    Checks.due("others do not count", 1, violationOf(6, AT_MOST, 2, 7, 1, 2, 7));
  }

  private static void equalTurnsAtTheNumber() {
    Checks.sentence("D: 2 equal: the absolute value of the sum .. minus the number");
    Checks.due("one less", 1, violation(EQUAL, 8, 3, 4));
    Checks.due("the number itself", 0, violation(EQUAL, 7, 3, 4));
    Checks.due("one more", 1, violation(EQUAL, 6, 3, 4));
    Checks.due("sum 0, number 50", 50, violation(EQUAL, 50, 0, 0));
    Checks.due("sum 0, number -50", 50, violation(EQUAL, -50, 0, 0));
    Checks.due("sum 70, number 50", 20, violation(EQUAL, 50, 7, 7, 7, 7, 7, 7, 7, 7, 7, 7));
    Checks.due("sum 70, number -50", 120, violation(EQUAL, -50, 7, 7, 7, 7, 7, 7, 7, 7, 7, 7));
    Checks.due("others do not count", 1, violationOf(6, EQUAL, 4, 7, 1, 2, 7));
  }

  private static void ascendingTurnsAtTheNumber() {
    Checks.sentence("D: 3 ascending: .. less than the sum of the number and the value of the member before it");
    Checks.due("just as much", 0, violation(ASCENDING, 2, 3, 5));
    Checks.due("one less", 1, violation(ASCENDING, 2, 3, 4));
    Checks.due("one more", 0, violation(ASCENDING, 2, 3, 6));
    Checks.due("equal ones, number 0", 0, violation(ASCENDING, 0, 3, 3));
    Checks.due("equal ones, number 1", 1, violation(ASCENDING, 1, 3, 3));
    Checks.due("a fall of 1, number 0", 1, violation(ASCENDING, 0, 3, 2));
    Checks.due("a fall of 1, number -1", 0, violation(ASCENDING, -1, 3, 2));
    Checks.due("the greatest rise, number 7", 0, violation(ASCENDING, 7, 0, 7));
    Checks.due("the greatest rise, number 8", 1, violation(ASCENDING, 8, 0, 7));
    Checks.due("the greatest fall, number -7", 0, violation(ASCENDING, -7, 7, 0));
    Checks.due("the greatest fall, number -6", 1, violation(ASCENDING, -6, 7, 0));
    Checks.due("number 50", 1, violation(ASCENDING, 50, 0, 7));
    Checks.due("number -50", 0, violation(ASCENDING, -50, 7, 0));
  }

  private static void ascendingLeavesOutTheFirst() {
    Checks.sentence("D: 3 ascending: the number of members, except the first one");
    Checks.due("one of two", 1, violation(ASCENDING, 50, 0, 0));
    Checks.due("nine of ten", 9, violation(ASCENDING, 50, 0, 0, 0, 0, 0, 0, 0, 0, 0, 0));
    Checks.due("the last one alone", 1, violation(ASCENDING, 1, 1, 2, 3, 0));
    Checks.due("the second one alone", 1, violation(ASCENDING, 1, 7, 1, 2, 3));
    Checks.due("the member before it, not the greatest one", 1, violation(ASCENDING, 0, 7, 1, 1, 1));
  }

  private static void ascendingGoesByMembers() {
    Checks.sentence("D: 3 ascending: .. where the members are in ascending order");
    Checks.due("rising members with others between", 0, violationOf(21, ASCENDING, 1, 1, 0, 2, 0, 3));
    Checks.due("falling members with others between", 2, violationOf(21, ASCENDING, 1, 3, 4, 2, 3, 1));
    Checks.due("the first member is not variable 0", 0, violationOf(6, ASCENDING, 1, 7, 1, 2, 0));
  }

  private static void countOfZeros() {
    Checks.sentence("D: 4 count: the absolute value of the difference between .. members with the value 0 and the number");
    Checks.due("as many", 0, violation(COUNT, 1, 0, 1));
    Checks.due("one too few", 1, violation(COUNT, 2, 0, 1));
    Checks.due("one too many", 1, violation(COUNT, 1, 0, 0));
    Checks.due("none, number 0", 0, violation(COUNT, 0, 1, 7));
    Checks.due("ten, number 10", 0, violation(COUNT, 10, 0, 0, 0, 0, 0, 0, 0, 0, 0, 0));
    Checks.due("ten, number -50", 60, violation(COUNT, -50, 0, 0, 0, 0, 0, 0, 0, 0, 0, 0));
    Checks.due("none, number 50", 50, violation(COUNT, 50, 1, 1));
    Checks.due("none, number -50", 50, violation(COUNT, -50, 1, 1));
    Checks.due("others do not count", 1, violationOf(6, COUNT, 0, 0, 0, 1, 0));
  }

  private static void apartTurnsAtTheNumber() {
    Checks.sentence("D: 5 apart: .. whose difference, as an absolute value, is less than the number");
    Checks.due("a difference like the number", 0, violation(APART, 3, 1, 4));
    Checks.due("a difference one less", 1, violation(APART, 3, 1, 3));
    Checks.due("a difference one more", 0, violation(APART, 3, 1, 5));
    Checks.due("like the number, in the other order", 0, violation(APART, 3, 4, 1));
    Checks.due("one less, in the other order", 1, violation(APART, 3, 3, 1));
    Checks.due("equal ones, number 0", 0, violation(APART, 0, 5, 5));
    Checks.due("equal ones, number 1", 1, violation(APART, 1, 5, 5));
    Checks.due("equal ones, number -50", 0, violation(APART, -50, 5, 5));
    Checks.due("the greatest difference, number 7", 0, violation(APART, 7, 0, 7));
    Checks.due("the greatest difference, number 8", 1, violation(APART, 8, 0, 7));
    Checks.due("all pairs of ten", 45, violation(APART, 50, 0, 1, 2, 3, 4, 5, 6, 7, 0, 7));
    Checks.due("pairs that are no neighbors", 1, violation(APART, 2, 4, 0, 7, 5));
    Checks.due("others do not count", 0, violationOf(9, APART, 2, 4, 4, 4, 0));
  }

  private static void costOfNothing() {
    Checks.sentence("D, 12: The cost is the sum over all constraints of the weight times the violation");
    Checks.due("without variables", 0, new TabuSolver().cost());
    Checks.due("best cost without variables", 0, new TabuSolver().bestCost());
    TabuSolver x = Checks.solver(2, 2);
    Checks.due("without constraints", 0, x.cost());
    x.addConstraint(DIFFERENT, 3, 0, 9);
    Checks.due("one constraint", 9, x.cost());
    x.addConstraint(EQUAL, 3, 2, 4);
    Checks.due("two constraints", 17, x.cost());
    Checks.due("best cost", 17, x.bestCost());
    x.setValue(1, 1);
    Checks.due("one of them is not violated", 4, x.cost());
  }

  private static void greatestCost() {
    Checks.sentence("D, 12: The cost is the sum over all constraints of the weight times the violation");
    TabuSolver x = Checks.solver(8, 8, 8, 8, 8, 8, 8, 8, 8, 8);
    for (int v = 0; v < 10; v++) {
      x.setValue(v, 7);
    }
    for (int c = 0; c < 20; c++) {
      x.addConstraint(c % 2 == 0 ? AT_MOST : EQUAL, 1023, -50, 9);
    }
    Checks.due("twenty times nine times 120", 21600, x.cost());
    Checks.due("best cost", 21600, x.bestCost());
    Checks.due("conflict", 21600, x.variable(9, 3));
    Checks.due("relief", 1260, x.relief(9));
  }

  private static void bestIsTheFirstOfSeveral() {
    Checks.sentence("D, 13: The best values .. had the least cost since the search began, the first ones of several");
    TabuSolver x = Checks.solver(8, 8);
    x.addConstraint(EQUAL, 3, 3, 1);
    x.setNeighborhood(1);
    x.setTenure(0);
    Checks.due("a step to cost 0", 0, x.step());
    Checks.due("best values", "30", Checks.bestValues(x));
    Checks.due("a step away", 1, x.step());
    Checks.due("the best values stay", "30", Checks.bestValues(x));
    Checks.due("a step to cost 0 again", 0, x.step());
    Checks.due("by other values", "21", Checks.values(x));
    Checks.due("the first ones stay", "30", Checks.bestValues(x));
    Checks.due("best cost", 0, x.bestCost());
    Checks.due("reached at", 1, x.search(4));
    TabuSolver y = Checks.withValues(Checks.solver(2, 2), 1, 0);
    y.addConstraint(EQUAL, 3, 1, 1);
    y.setNeighborhood(2);
    Checks.due("a swap", 0, y.step());
    Checks.due("the values at the beginning stay", "10", Checks.bestValues(y));
    Checks.due("reached at the beginning", 0, y.search(4));
  }

  private static void violationOfEitherValues() {
    Checks.sentence("14: true for the best values, false for the present ones");
    TabuSolver x = Checks.solver(3, 3);
    x.addConstraint(EQUAL, 3, 0, 1);
    x.addConstraint(DIFFERENT, 3, 0, 1);
    x.setNeighborhood(4);
    x.setValue(0, 1);
    Checks.due("first present one", 1, x.violation(0, false));
    x.step();
    Checks.due("values", "00", Checks.values(x));
    Checks.due("best values", "10", Checks.bestValues(x));
    Checks.due("present violation of the first", 0, x.violation(0, false));
    Checks.due("best violation of the first", 1, x.violation(0, true));
    Checks.due("present violation of the last", 1, x.violation(1, false));
    Checks.due("best violation of the last", 0, x.violation(1, true));
  }

  private static void blameOfTheLowestNumber() {
    Checks.sentence("15: the one with the lowest number of several");
    TabuSolver x = Checks.solver(2, 2, 2, 2);
    x.addConstraint(DIFFERENT, 12, 0, 5);
    Checks.due("the last two are equal", 2, x.mostBlamed());
    x.addConstraint(DIFFERENT, 3, 0, 5);
    Checks.due("all four are equal", 0, x.mostBlamed());
    x.setWeight(0, 6);
    Checks.due("the last two have one more", 2, x.mostBlamed());
    x.addConstraint(DIFFERENT, 9, 0, 1);
    Checks.due("the last one has the most", 3, x.mostBlamed());
  }

  private static void blameOfOne() {
    Checks.sentence("15: Throws NoSuchElementException if there are no variables, or all conflicts are 0");
    TabuSolver x = Checks.solver(2, 2);
    Checks.fails("no constraints", java.util.NoSuchElementException.class, x::mostBlamed);
    x.addConstraint(AT_MOST, 3, 0, 1);
    Checks.fails("a violation of 0", java.util.NoSuchElementException.class, x::mostBlamed);
    x.setValue(1, 1);
    Checks.due("a conflict of 1 for both", 0, x.mostBlamed());
    TabuSolver y = Checks.solver(2, 2, 2, 2, 2, 2, 2, 2, 2, 2);
    y.addConstraint(DIFFERENT, 1 << 9 | 1 << 8, 0, 1);
    Checks.due("the last but one of ten", 8, y.mostBlamed());
    y.addConstraint(DIFFERENT, 1 << 9 | 1, 0, 1);
    Checks.due("the last one of ten", 9, y.mostBlamed());
  }

  private static void reliefOfEachSign() {
    Checks.sentence("16: Returns the decrease, negative if the cost would increase in each case");
    TabuSolver x = Checks.solver(2, 2);
    x.addConstraint(EQUAL, 3, 0, 7);
    Checks.due("the only other value costs more", -7, x.relief(0));
    x.setValue(0, 1);
    Checks.due("the only other value costs less", 7, x.relief(0));
    Checks.due("an increase in each case", -7, x.relief(1));
    x.addConstraint(EQUAL, 3, 2, 7);
    Checks.due("neither", 0, x.relief(0));
    Checks.due("neither for the other", 0, x.relief(1));
    TabuSolver y = Checks.solver(8, 8);
    Checks.due("no constraints", 0, y.relief(1));
    Checks.due("values stay", "00", Checks.values(y));
  }

  private static void reliefLooksAtAllValues() {
    Checks.sentence("16: by how much the cost would decrease at most if one variable got another value");
    TabuSolver x = Checks.withValues(Checks.solver(8, 8), 3, 0);
    x.addConstraint(EQUAL, 3, 0, 2);
    Checks.due("by the first value", 6, x.relief(0));
    x.removeConstraint(0);
    x.addConstraint(EQUAL, 3, 7, 2);
    Checks.due("by the last value", 8, x.relief(0));
    Checks.due("by a value between", 8, x.relief(1));
    x.setValue(0, 7);
    Checks.due("the present value does not count", -2, x.relief(0));
    x.setValue(0, 0);
    Checks.due("from the first value", 14, x.relief(0));
  }

  private static void reliefWithoutNeighborhood() {
    Checks.sentence("D: relief looks at all other values, whatever the neighborhood is");
    TabuSolver x = Checks.withValues(Checks.solver(8, 8), 3, 3);
    x.addConstraint(EQUAL, 3, 0, 2);
    for (int kinds = 0; kinds < 16; kinds++) {
      x.setNeighborhood(kinds);
      Checks.due("in the neighborhood " + kinds, 6, x.relief(1));
    }
    TabuSolver y = Checks.solver(8, 8);
    y.addConstraint(EQUAL, 3, 0, 2);
    y.setNeighborhood(4);
    y.step();
    Checks.due("0 is forbidden", true, y.isForbidden(0, 0));
    Checks.due("forbidden values count, too", 2, y.relief(0));
  }

  private static void takeBestOfThePresent() {
    Checks.sentence("17: Returns the cost before minus the cost then");
    Checks.due("without variables", 0, new TabuSolver().takeBest());
    TabuSolver x = Checks.solver(4, 4);
    x.addConstraint(EQUAL, 3, 0, 3);
    Checks.due("the best values are present", 0, x.takeBest());
    x.setNeighborhood(1);
    x.step();
    Checks.due("one step away", 3, x.takeBest());
    Checks.due("values", "00", Checks.values(x));
    Checks.due("again", 0, x.takeBest());
    TabuSolver dear = Checks.withValues(Checks.solver(4, 4), 3, 3);
    dear.addConstraint(EQUAL, 3, 8, 3);
    dear.setNeighborhood(1);
    dear.step();
    Checks.due("costs", "9 6", dear.cost() + " " + dear.bestCost());
    Checks.due("9 minus 6", 3, dear.takeBest());
    Checks.due("the cost then", 6, dear.cost());
    TabuSolver y = Checks.solver(4, 4);
    y.step();
    Checks.due("other values of the same cost", 0, y.takeBest());
    Checks.due("the best values are taken", "00", Checks.values(y));
  }

  private static void takeBestLeavesTheRest() {
    Checks.sentence("17, D: The search goes on: nothing else changes");
    TabuSolver x = Samples.ordinary();
    String best = Checks.bestValues(x);
    String search = numbers(x);
    Checks.due("takeBest", 2, x.takeBest());
    Checks.due("values", best, Checks.values(x));
    Checks.due("best values", best, Checks.bestValues(x));
    Checks.due("numbers of the search", search, numbers(x));
    Checks.due("the forbidden values", true, x.isForbidden(0, 1) && x.isForbidden(0, 2) && x.isForbidden(2, 0));
    Checks.due("the neighborhood", 7, x.setNeighborhood(7));
    Checks.due("the tenure", 5, x.setTenure(5));
    Checks.due("the patience", 6, x.setPatience(6));
    Checks.due("the changes", 6, x.undo());
  }

  private static String numbers(TabuSolver x) {
    StringBuilder text = new StringBuilder();
    for (int what = 0; what < 5; what++) {
      text.append(x.search(what)).append(' ');
    }
    return text.append(x.bestCost()).append(' ').append(x.logSize()).toString();
  }

  private static void takeBestAfterARestart() {
    Checks.sentence("17: Makes the best values the present ones");
    TabuSolver x = Checks.solver(8, 8, 8, 8, 8, 8, 8, 8, 8, 8);
    x.addConstraint(EQUAL, 1023, 0, 1);
    Checks.due("a restart", 37, x.restart());
    Checks.due("back to the best values", 37, x.takeBest());
    Checks.due("values", "0000000000", Checks.values(x));
    Checks.due("cost", 0, x.cost());
  }
}
