import java.util.List;

/** What the document's sentences on all combinations of values, promises 35 to 39, name as boundary cases. */
public final class ExactEdgeTest {
  private static final int DIFFERENT = 0;
  private static final int AT_MOST = 1;
  private static final int EQUAL = 2;
  private static final int ASCENDING = 3;

  public static void main(String[] args) {
    fiveThousand();
    moreThanFiveThousand();
    limitFollowsTheDomains();
    indexGoesAheadOfTheLimit();
    withoutVariables();
    withoutConstraints();
    oneVariable();
    optimumAtTheFirstCombination();
    optimumAtTheLastCombination();
    optimumAboveZero();
    worstAtEitherEnd();
    worstIsTheOptimum();
    numberOfOptima();
    firstCombination();
    firstCombinationOfTen();
    unavoidableInEach();
    unavoidableInSome();
    unavoidableOfTwenty();
    presentValuesDoNotMatter();
    eachChangeMatters();
    Checks.finish("ExactEdgeTest");
  }

  private static String answers(TabuSolver x) {
    return x.optimum() + " " + x.optima() + " " + x.worst() + " " + x.unavoidable();
  }

  private static String optimalValues(TabuSolver x) {
    StringBuilder text = new StringBuilder();
    int variables = x.count(0);
    for (int v = 0; v < variables; v++) {
      text.append(x.optimalValue(v));
    }
    return text.toString();
  }

  private static void fiveThousand() {
    Checks.sentence("35 to 39: if there are more than 5000 combinations");
    int[][] rows = {{5, 5, 5, 5, 8}, {8, 5, 5, 5, 5}, {5, 5, 5, 5, 4, 2}, {5, 2, 5, 2, 5, 2, 5}};
    for (int[] sizes : rows) {
      TabuSolver x = Checks.solver(sizes);
      Checks.due("combinations", 5000, x.count(3));
      Checks.due("optimum", 0, x.optimum());
      Checks.due("optima", 5000, x.optima());
      Checks.due("value", 0, x.optimalValue(sizes.length - 1));
      Checks.due("worst", 0, x.worst());
      Checks.due("unavoidable", 0, x.unavoidable());
    }
  }

  private static void refusesAll(TabuSolver x) {
    Class<IllegalStateException> refused = IllegalStateException.class;
    Checks.sentence("35: Throws IllegalStateException if there are more than 5000 combinations");
    Checks.fails("optimum", refused, x::optimum);
    Checks.sentence("36: Throws IllegalStateException if there are more than 5000 combinations");
    Checks.fails("optima", refused, x::optima);
    Checks.sentence("37: Throws IllegalStateException if there are more than 5000 combinations");
    Checks.fails("optimalValue", refused, () -> x.optimalValue(0));
    Checks.sentence("38: Throws IllegalStateException if there are more than 5000 combinations");
    Checks.fails("worst", refused, x::worst);
    Checks.sentence("39: Throws IllegalStateException if there are more than 5000 combinations");
    Checks.fails("unavoidable", refused, x::unavoidable);
  }

  /** 5040 is the least product of sizes from 2 to 8 above 5000. */
  private static void moreThanFiveThousand() {
    int[][] rows = {{7, 6, 5, 4, 3, 2}, {8, 7, 6, 5, 3}, {3, 3, 2, 2, 2, 2, 5, 7}, {8, 8, 8, 8, 8, 8, 8, 8, 8, 8}};
    for (int[] sizes : rows) {
      TabuSolver x = Checks.solver(sizes);
      Checks.due("more than 5000", true, x.count(3) >= 5040);
      refusesAll(x);
    }
  }

  private static void limitFollowsTheDomains() {
    Checks.sentence("35 to 39: if there are more than 5000 combinations");
    TabuSolver x = Checks.solver(5, 5, 5, 5, 8);
    x.addConstraint(EQUAL, 31, 23, 1);
    Checks.due("at 5000", "0 1 23 0", answers(x));
    x.addVariable(2);
    refusesAll(x);
    x.undo();
    Checks.due("at 5000 again", "0 1 23 0", answers(x));
    x.setDomain(0, 6);
    refusesAll(x);
    x.setDomain(0, 4);
    Checks.due("at 4000", "1 1 23 1", answers(x));
    Checks.due("values at 4000", "34447", optimalValues(x));
    TabuSolver y = Checks.solver(8, 8, 8, 8);
    y.save();
    y.addVariable(2);
    refusesAll(y);
    y.restore();
    Checks.due("at 4096 after restore", "0 4096 0 0", answers(y));
  }

  private static void indexGoesAheadOfTheLimit() {
    Checks.sentence("37, D: If several exceptions apply, the one that is documented first is thrown");
    TabuSolver x = Checks.solver(8, 8, 8, 8, 8);
    Checks.fails("no such variable", IndexOutOfBoundsException.class, () -> x.optimalValue(5));
    Checks.fails("a negative one", IndexOutOfBoundsException.class, () -> x.optimalValue(-1));
    Checks.fails("the last one", IllegalStateException.class, () -> x.optimalValue(4));
    Checks.sentence("37: Throws IndexOutOfBoundsException if there is no such variable");
    TabuSolver y = Checks.solver(8, 8);
    Checks.fails("no such variable of two", IndexOutOfBoundsException.class, () -> y.optimalValue(2));
    Checks.due("the last one of two", 0, y.optimalValue(1));
  }

  private static void withoutVariables() {
    Checks.sentence("D: Without variables, there is one combination, whose cost is 0");
    TabuSolver x = new TabuSolver();
    Checks.due("combinations", 1, x.count(3));
    Checks.due("answers", "0 1 0 0", answers(x));
    Checks.fails("no value", IndexOutOfBoundsException.class, () -> x.optimalValue(0));
    TabuSolver y = Samples.ordinary();
    Checks.due("answers ahead of clear", "0 2 24 0", answers(y));
    y.clear();
    Checks.due("answers after clear", "0 1 0 0", answers(y));
  }

  private static void withoutConstraints() {
    Checks.sentence("36: Returns the number of combinations of values with the least cost");
    Checks.due("all of ten", "0 1024 0 0", answers(Checks.solver(2, 2, 2, 2, 2, 2, 2, 2, 2, 2)));
    TabuSolver x = Checks.withValues(Checks.solver(3, 4), 2, 3);
    Checks.due("all of two", "0 12 0 0", answers(x));
    Checks.due("the first combination", "00", optimalValues(x));
  }

  private static void oneVariable() {
    Checks.sentence("35 to 39: of all combinations of values");
    Checks.due("size 2", "0 2 0 0", answers(Checks.solver(2)));
    Checks.due("size 8", "0 8 0 0", answers(Checks.solver(8)));
  }

  private static void optimumAtTheFirstCombination() {
    Checks.sentence("35: Returns the least cost of all combinations of values");
    TabuSolver x = Checks.solver(5, 5, 5, 5, 8);
    x.addConstraint(EQUAL, 31, 0, 3);
    Checks.due("answers", "0 1 69 0", answers(x));
    Checks.due("values", "00000", optimalValues(x));
  }

  private static void optimumAtTheLastCombination() {
    Checks.sentence("35: Returns the least cost of all combinations of values");
    TabuSolver x = Checks.solver(5, 5, 5, 5, 8);
    x.addConstraint(EQUAL, 31, 24, 3);
    Checks.due("answers", "3 1 72 1", answers(x));
    Checks.due("values", "44447", optimalValues(x));
    TabuSolver y = Checks.solver(2, 2, 2, 2, 2, 2, 2, 2, 2, 2);
    y.addConstraint(EQUAL, 1023, 10, 1);
    Checks.due("answers of ten", "0 1 10 0", answers(y));
    Checks.due("values of ten", "1111111111", optimalValues(y));
  }

  private static void optimumAboveZero() {
    Checks.sentence("35: Returns the least cost of all combinations of values");
    TabuSolver x = Checks.solver(2, 2, 2);
    x.addConstraint(DIFFERENT, 7, 0, 9);
    Checks.due("two of three are equal", "9 6 27 1", answers(x));
    Checks.due("the first one of six", "001", optimalValues(x));
    TabuSolver y = Checks.solver(2, 2);
    for (int c = 0; c < 20; c++) {
      y.addConstraint(EQUAL, 3, -50, 9);
    }
    Checks.due("the least of great costs", "9000 1 9360 20", answers(y));
  }

  private static void worstAtEitherEnd() {
    Checks.sentence("38: Returns the greatest cost that a combination of values has");
    TabuSolver x = Checks.solver(3, 4);
    x.addConstraint(AT_MOST, 3, 4, 2);
    Checks.due("at the last combination", 2, x.worst());
    x.setValue(0, 2);
    x.setValue(1, 3);
    Checks.due("it is the present one", x.cost(), x.worst());
    x.removeConstraint(0);
    x.addConstraint(EQUAL, 3, 5, 2);
    Checks.due("at the first combination", 10, x.worst());
    x.removeConstraint(0);
    x.addConstraint(ASCENDING, 3, 0, 7);
    Checks.due("at one between", 7, x.worst());
  }

  private static void worstIsTheOptimum() {
    Checks.sentence("38: Returns the greatest cost that a combination of values has");
    TabuSolver x = Checks.solver(2, 2);
    x.addConstraint(ASCENDING, 3, 50, 4);
    Checks.due("all cost the same", "4 4 4 1", answers(x));
  }

  private static void numberOfOptima() {
    Checks.sentence("36: Returns the number of combinations of values with the least cost");
    int[] due = {1, 2, 3, 3, 2, 1};
    for (int sum = 0; sum <= 5; sum++) {
      TabuSolver x = Checks.solver(3, 4);
      x.addConstraint(EQUAL, 3, sum, 1);
      Checks.due("with the sum " + sum, due[sum], x.optima());
    }
  }

  private static void firstCombination() {
    Checks.sentence("37: ordered lexicographically by the values of the variables 0, 1, and so on");
    String[] due = {"00", "01", "02", "03", "13", "23"};
    for (int sum = 0; sum <= 5; sum++) {
      TabuSolver x = Checks.solver(3, 4);
      x.addConstraint(EQUAL, 3, sum, 1);
      Checks.due("with the sum " + sum, due[sum], optimalValues(x));
    }
    TabuSolver y = Checks.solver(4, 3);
    y.addConstraint(EQUAL, 3, 4, 1);
    Checks.due("the second domain ends first", "22", optimalValues(y));
    TabuSolver z = Checks.solver(3, 3, 3);
    z.addConstraint(DIFFERENT, 7, 0, 1);
    Checks.due("all different", "012", optimalValues(z));
    z.addConstraint(ASCENDING, 5, -50, 1);
    z.addConstraint(ASCENDING, 3, -1, 1);
    Checks.due("five of six, without 201", 5, z.optima());
  }

  private static void firstCombinationOfTen() {
    Checks.sentence("37: Returns a value in the first combination with the least cost");
    TabuSolver x = Checks.solver(2, 2, 2, 2, 2, 2, 2, 2, 2, 2);
    x.addConstraint(EQUAL, 1023, 3, 1);
    Checks.due("the last three", "0000000111", optimalValues(x));
    Checks.due("120 of 1024", 120, x.optima());
    x.addConstraint(EQUAL, 1 | 2, 1, 1);
    Checks.due("one of the first two", "0100000011", optimalValues(x));
    x.addConstraint(ASCENDING, 3, 1, 9);
    Checks.due("rising there", "0100000011", optimalValues(x));
    x.addConstraint(ASCENDING, 512 | 256, 1, 9);
    Checks.due("rising at the end", "0100000101", optimalValues(x));
  }

  private static void unavoidableInEach() {
    Checks.sentence("39: the number of constraints that are violated in each combination with the least cost");
    TabuSolver x = Checks.solver(3, 3);
    x.addConstraint(EQUAL, 3, 2, 5);
    Checks.due("none", 0, x.unavoidable());
    x.addConstraint(DIFFERENT, 3, 0, 1);
    Checks.due("none still", 0, x.unavoidable());
    x.addConstraint(EQUAL, 3, 3, 1);
    Checks.due("the last one, though other combinations keep it", 1, x.unavoidable());
    x.addConstraint(AT_MOST, 3, -1, 1);
    Checks.due("the last two", 2, x.unavoidable());
    x.setWeight(2, 9);
    Checks.due("the first one now instead of the third", 2, x.unavoidable());
    Checks.due("its combination", "12", optimalValues(x));
  }

  private static void unavoidableInSome() {
    Checks.sentence("39: the number of constraints that are violated in each combination with the least cost");
    TabuSolver x = Checks.solver(2, 2);
    x.addConstraint(EQUAL, 3, 0, 1);
    x.addConstraint(EQUAL, 3, 1, 1);
    Checks.due("one in some, the other in others", "1 3 3 0", answers(x));
    x.addConstraint(ASCENDING, 3, 1, 9);
    Checks.due("one in the only one", "1 1 12 1", answers(x));
  }

  private static void unavoidableOfTwenty() {
    Checks.sentence("39: the number of constraints that are violated in each combination with the least cost");
    TabuSolver x = Checks.solver(2, 2);
    for (int c = 0; c < 20; c++) {
      x.addConstraint(AT_MOST, 3, c == 7 ? 2 : -1, 1);
    }
    Checks.due("all but one of twenty", 19, x.unavoidable());
    x.removeConstraint(7);
    x.addConstraint(AT_MOST, 3, -1, 1);
    Checks.due("all of twenty", 20, x.unavoidable());
  }

  private static void presentValuesDoNotMatter() {
    Checks.sentence("35 to 39: of all combinations of values");
    TabuSolver x = Checks.solver(3, 3, 2);
    x.addConstraint(EQUAL, 7, 3, 2);
    x.addConstraint(DIFFERENT, 7, 0, 1);
    String due = answers(x) + " " + optimalValues(x);
    Checks.due("at first", "0 4 9 0 021", due);
    for (int kinds = 0; kinds < 16; kinds += 5) {
      x.setNeighborhood(kinds);
      x.restart();
      x.run(3);
      x.setValue(1, kinds % 3);
      Checks.due("after a walk in " + kinds, due, answers(x) + " " + optimalValues(x));
    }
  }

  private static void eachChangeMatters() {
    Checks.sentence("35 to 39: of all combinations of values");
    List<Portrait.Use> changes = List.of(x -> x.addVariable(4), x -> x.setDomain(1, 2), x -> x.addConstraint(2, 3, 3, 1),
        x -> x.removeConstraint(0), x -> x.setWeight(0, 9), TabuSolver::undo, TabuSolver::restore, TabuSolver::clear,
        x -> {
          Checks.type(x, "v3;c012:7*1;");
          return x.read();
        });
    String[] due = {"0 16 3 0 0200", "0 2 3 0 110", "1 7 6 0 020", "0 12 1 0 001", "0 4 19 0 020", "0 6 2 0 020",
        "0 6 0 0 00", "0 1 0 0 ", "4 12 10 1 0210"};
    for (int i = 0; i < changes.size(); i++) {
      TabuSolver x = Checks.solver(3, 2);
      x.save();
      x.undo();
      x.addVariable(3);
      x.addVariable(2);
      x.addConstraint(2, 3, 2, 1);
      x.addConstraint(0, 6, 0, 1);
      Checks.due("ahead of change " + i, "0 4 3 0 020", answers(x) + " " + optimalValues(x));
      changes.get(i).on(x);
      Checks.due("after change " + i, due[i], answers(x) + " " + optimalValues(x));
    }
  }
}
