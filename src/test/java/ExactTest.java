/** Promises 35 to 39: exact answers. */
public final class ExactTest {
  public static void main(String[] args) {
    smallProblem();
    unavoidableOnes();
    avoidableInTurns();
    withoutVariables();
    withoutConstraints();
    tenVariables();
    firstInLexicographicOrder();
    limit();
    indexFirst();
    nothingChanges();
    answersFollowChanges();
    Checks.finish("ExactTest");
  }

  private static String answers(TabuSolver x) {
    return x.optimum() + "," + x.optima() + "," + x.worst() + "," + x.unavoidable();
  }

  private static String optimalValues(TabuSolver x) {
    StringBuilder text = new StringBuilder();
    for (int v = 0; v < x.count(0); v++) {
      text.append(x.optimalValue(v));
    }
    return text.toString();
  }

  private static void smallProblem() {
    TabuSolver x = Checks.solver(2, 3);
    x.addConstraint(2, 3, 2, 3);
    Checks.due("0 + 2 and 1 + 1", "0,2,6,0", answers(x));
    Checks.due("first combination", "02", optimalValues(x));
  }

  private static void unavoidableOnes() {
    TabuSolver x = Checks.solver(2, 2, 2);
    x.addConstraint(0, 7, 0, 2);
    x.addConstraint(0, 3, 0, 1);
    Checks.due("two of three are equal", "2,4,7,1", answers(x));
    Checks.due("first combination", "010", optimalValues(x));
    x.addConstraint(1, 7, -9, 1);
    Checks.due("two are unavoidable", "12,2,19,2", answers(x));
    Checks.due("first combination then", "010", optimalValues(x));
  }

  private static void avoidableInTurns() {
    TabuSolver x = Checks.solver(2, 2);
    x.addConstraint(2, 3, 0, 1);
    x.addConstraint(2, 3, 2, 1);
    Checks.due("one or the other is violated", "2,4,2,0", answers(x));
    Checks.due("first combination", "00", optimalValues(x));
  }

  private static void withoutVariables() {
    TabuSolver x = new TabuSolver();
    Checks.due("one combination", "0,1,0,0", answers(x));
    Checks.fails("optimalValue(0)", IndexOutOfBoundsException.class, () -> x.optimalValue(0));
  }

  private static void withoutConstraints() {
    TabuSolver x = Checks.solver(5, 5, 5, 5, 8);
    Checks.due("5000 combinations", 5000, x.count(3));
    Checks.due("all are optimal", "0,5000,0,0", answers(x));
    Checks.due("first combination", "00000", optimalValues(x));
  }

  private static void tenVariables() {
    TabuSolver x = Checks.solver(2, 2, 2, 2, 2, 2, 2, 2, 2, 2);
    x.addConstraint(2, 1023, 9, 1);
    Checks.due("one zero among ten", "0,10,9,0", answers(x));
    Checks.due("first combination", "0111111111", optimalValues(x));
    for (int c = 1; c < 20; c++) {
      x.addConstraint(1, 1023, -1, 1);
    }
    Checks.due("twenty constraints", "28,1,210,20", answers(x));
  }

  private static void firstInLexicographicOrder() {
    TabuSolver x = Checks.solver(5, 5, 5, 5, 8);
    x.addConstraint(2, 31, 10, 1);
    Checks.due("the last ones are greater", "00037", optimalValues(x));
    x.addConstraint(0, 31, 0, 1);
    Checks.due("all different", "01234", optimalValues(x));
    x.addConstraint(3, 3, -2, 9);
    x.addConstraint(3, 6, 1, 9);
    x.addConstraint(4, 24, 1, 9);
    // 24 places for 1 to 4, half of them ascending from 1 to 2, without 41x: 10, and 0 stands at 3 or 4.
    Checks.due("with a zero behind", 20, x.optima());
    Checks.due("first of them", "12304", optimalValues(x));
  }

  private static void limit() {
    TabuSolver x = Checks.solver(7, 6, 5, 4, 3, 2);
    Class<IllegalStateException> refused = IllegalStateException.class;
    Checks.due("5040 combinations", 5040, x.count(3));
    Checks.fails("optimum", refused, x::optimum);
    Checks.fails("optima", refused, x::optima);
    Checks.fails("optimalValue", refused, () -> x.optimalValue(0));
    Checks.fails("worst", refused, x::worst);
    Checks.fails("unavoidable", refused, x::unavoidable);
    x.setDomain(0, 6);
    Checks.due("4320 combinations", 4320, x.optima());
    x.setDomain(0, 7);
    Checks.fails("5040 again", refused, x::optima);
    TabuSolver y = Checks.solver(8, 8, 8, 8, 8, 8, 8, 8, 8, 8);
    Checks.fails("the most combinations", refused, y::optimum);
  }

  private static void indexFirst() {
    TabuSolver x = Checks.solver(8, 8, 8, 8, 8);
    Checks.fails("optimalValue(5)", IndexOutOfBoundsException.class, () -> x.optimalValue(5));
    Checks.fails("optimalValue(-1)", IndexOutOfBoundsException.class, () -> x.optimalValue(-1));
    Checks.fails("optimalValue(4)", IllegalStateException.class, () -> x.optimalValue(4));
    TabuSolver y = Checks.solver(8);
    Checks.fails("optimalValue(1)", IndexOutOfBoundsException.class, () -> y.optimalValue(1));
  }

  private static void nothingChanges() {
    TabuSolver x = Checks.withValues(Checks.solver(3, 3), 2, 2);
    x.addConstraint(0, 3, 0, 4);
    x.addConstraint(2, 3, 4, 1);
    x.step();
    String before = Checks.values(x) + Checks.bestValues(x) + x.cost() + x.bestCost() + x.search(0) + x.logSize();
    Checks.due("answers", "1,2,8,1", answers(x));
    String after = Checks.values(x) + Checks.bestValues(x) + x.cost() + x.bestCost() + x.search(0) + x.logSize();
    Checks.due("the state stays", before, after);
  }

  private static void answersFollowChanges() {
    TabuSolver x = Checks.solver(2, 2);
    x.addConstraint(2, 3, 3, 1);
    Checks.due("at first", "1,1,3,1", answers(x));
    x.setWeight(0, 2);
    Checks.due("after setWeight", "2,1,6,1", answers(x));
    x.setDomain(0, 3);
    Checks.due("after setDomain", "0,1,6,0", answers(x));
    x.save();
    x.addVariable(2);
    Checks.due("after addVariable", "0,2,6,0", answers(x));
    x.addConstraint(1, 5, 1, 1);
    Checks.due("after addConstraint", "1,1,6,1", answers(x));
    x.removeConstraint(0);
    Checks.due("after removeConstraint", "0,6,2,0", answers(x));
    x.undo();
    Checks.due("after undo", "1,1,6,1", answers(x));
    Checks.type(x, "v2;");
    x.read();
    Checks.due("after read", "1,2,6,1", answers(x));
    x.restore();
    Checks.due("after restore", "0,1,6,0", answers(x));
    x.setValue(0, 2);
    Checks.due("after setValue", "0,1,6,0", answers(x));
    x.clear();
    Checks.due("after clear", "0,1,0,0", answers(x));
  }
}
