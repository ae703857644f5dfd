import java.util.ArrayList;
import java.util.List;

/**
 * Each call that is refused throws the exception that is documented first of those that apply, and leaves the state as
 * it was. The states are those of Samples: empty, plain, ordinary, full and stuck.
 */
public final class RefusalTest {
  private static final Class<? extends RuntimeException> ARGUMENT = IllegalArgumentException.class;
  private static final Class<? extends RuntimeException> STATE = IllegalStateException.class;
  private static final Class<? extends RuntimeException> INDEX = IndexOutOfBoundsException.class;
  private static final Class<? extends RuntimeException> MISSING = java.util.NoSuchElementException.class;
  private static final int LEAST = Integer.MIN_VALUE;
  private static final int GREATEST = Integer.MAX_VALUE;

  private static final State EMPTY = new State("empty", Samples::empty);
  private static final State PLAIN = new State("plain", Samples::plain);
  private static final State ORDINARY = new State("ordinary", Samples::ordinary);
  private static final State FULL = new State("full", Samples::full);
  private static final State STUCK = new State("stuck", Samples::stuck);

  private record State(String name, Portrait.Maker maker, List<String> portrait) {
    State(String name, Portrait.Maker maker) {
      this(name, maker, Portrait.of(maker));
    }

    void refuses(String call, Class<? extends RuntimeException> want, Portrait.Use use) {
      String what = call + " in the " + name + " state";
      TabuSolver x = maker.make();
      Checks.fails(what, want, () -> use.on(x));
      String difference = Portrait.difference(portrait, Portrait.after(maker, use));
      Checks.due(what + " leaves the state", "", difference);
    }
  }

  public static void main(String[] args) {
    portraitsTellStatesApart();
    addVariable();
    setDomain();
    addConstraint();
    addConstraintMembers();
    addConstraintWhenFull();
    removeConstraint();
    setWeight();
    setValue();
    count();
    constraint();
    variable();
    violation();
    mostBlamed();
    relief();
    settings();
    move();
    nextMove();
    isForbidden();
    step();
    run();
    search();
    log();
    improvingShare();
    exactAnswers();
    optimalValue();
    append();
    errorPosition();
    describe();
    undo();
    restore();
    Checks.finish("RefusalTest");
  }

  /** Without this, a portrait that shows too little would let every refused call pass. */
  private static void portraitsTellStatesApart() {
    Checks.sentence("D: A method that throws an exception leaves the state unchanged");
    List<Portrait.Use> uses = new ArrayList<>(List.of(
        x -> x.addVariable(2), x -> x.setDomain(2, 3), x -> x.addConstraint(0, 3, 0, 1), x -> x.removeConstraint(1),
        x -> x.setWeight(0, 3), x -> x.setWeight(0, 2), x -> x.setValue(0, x.variable(0, 1)), x -> x.setNeighborhood(6),
        x -> x.setTenure(6), x -> x.setPatience(7), x -> x.setSeed(98), TabuSolver::step, x -> x.run(1),
        TabuSolver::takeBest, TabuSolver::restart, x -> x.append('1'), TabuSolver::read, TabuSolver::undo,
        TabuSolver::save, TabuSolver::restore, TabuSolver::clear));
    for (int i = 0; i < uses.size(); i++) {
      String difference = Portrait.difference(ORDINARY.portrait, Portrait.after(ORDINARY.maker, uses.get(i)));
      Checks.due("use " + i + " shows in the portrait", false, difference.isEmpty());
    }
  }

  private static void addVariable() {
    Checks.sentence("3: Throws IllegalArgumentException if size is out of range");
    for (int size : new int[] {1, 9, 0, -1, -2, LEAST, GREATEST}) {
      EMPTY.refuses("addVariable(" + size + ")", ARGUMENT, x -> x.addVariable(size));
      ORDINARY.refuses("addVariable(" + size + ")", ARGUMENT, x -> x.addVariable(size));
    }
    Checks.sentence("3: Throws IllegalStateException if there are 10 variables");
    FULL.refuses("addVariable(2)", STATE, x -> x.addVariable(2));
    FULL.refuses("addVariable(8)", STATE, x -> x.addVariable(8));
    Checks.sentence("3, D: If several exceptions apply, the one that is documented first is thrown");
    FULL.refuses("addVariable(1)", ARGUMENT, x -> x.addVariable(1));
    FULL.refuses("addVariable(9)", ARGUMENT, x -> x.addVariable(9));
  }

  private static void setDomain() {
    Checks.sentence("4: Throws IndexOutOfBoundsException if there is no such variable");
    EMPTY.refuses("setDomain(0, 2)", INDEX, x -> x.setDomain(0, 2));
    FULL.refuses("setDomain(10, 2)", INDEX, x -> x.setDomain(10, 2));
    for (int variable : new int[] {-1, 3, LEAST, GREATEST}) {
      Checks.sentence("4: Throws IndexOutOfBoundsException if there is no such variable");
      ORDINARY.refuses("setDomain(" + variable + ", 2)", INDEX, x -> x.setDomain(variable, 2));
      Checks.sentence("4, D: If several exceptions apply, the one that is documented first is thrown");
      ORDINARY.refuses("setDomain(" + variable + ", 1)", INDEX, x -> x.setDomain(variable, 1));
      ORDINARY.refuses("setDomain(" + variable + ", 9)", INDEX, x -> x.setDomain(variable, 9));
    }
    FULL.refuses("setDomain(10, 9)", INDEX, x -> x.setDomain(10, 9));
    Checks.sentence("4: Throws IllegalArgumentException if size is out of range");
    for (int size : new int[] {1, 9, 0, -1, LEAST, GREATEST}) {
      ORDINARY.refuses("setDomain(2, " + size + ")", ARGUMENT, x -> x.setDomain(2, size));
    }
  }

  private static void addConstraint() {
    Checks.sentence("5: Throws IllegalArgumentException if kind, number or weight is out of range");
    for (int kind : new int[] {-1, 6, LEAST, GREATEST}) {
      ORDINARY.refuses("addConstraint of kind " + kind, ARGUMENT, x -> x.addConstraint(kind, 3, 0, 1));
      FULL.refuses("addConstraint of kind " + kind, ARGUMENT, x -> x.addConstraint(kind, 3, 0, 1));
    }
    for (int number : new int[] {-51, 51, LEAST, GREATEST}) {
      ORDINARY.refuses("addConstraint with number " + number, ARGUMENT, x -> x.addConstraint(0, 3, number, 1));
      ORDINARY.refuses("addConstraint of kind 5 with " + number, ARGUMENT, x -> x.addConstraint(5, 3, number, 1));
      FULL.refuses("addConstraint with number " + number, ARGUMENT, x -> x.addConstraint(0, 3, number, 1));
    }
    for (int weight : new int[] {0, 10, -1, LEAST, GREATEST}) {
      ORDINARY.refuses("addConstraint with weight " + weight, ARGUMENT, x -> x.addConstraint(0, 3, 0, weight));
      FULL.refuses("addConstraint with weight " + weight, ARGUMENT, x -> x.addConstraint(0, 3, 0, weight));
    }
  }

  private static void addConstraintMembers() {
    Checks.sentence("5: Throws IllegalArgumentException if .. members has less than two elements");
    for (int members : new int[] {0, 1, 2, 4}) {
      ORDINARY.refuses("addConstraint with members " + members, ARGUMENT, x -> x.addConstraint(0, members, 0, 1));
      FULL.refuses("addConstraint with members " + members, ARGUMENT, x -> x.addConstraint(0, members, 0, 1));
    }
    Checks.sentence("5: Throws IllegalArgumentException if .. a member does not exist");
    EMPTY.refuses("addConstraint with members 3", ARGUMENT, x -> x.addConstraint(0, 3, 0, 1));
    for (int members : new int[] {8, 9, 15, 1 << 10 | 1, 1 << 30 | 3, 1 << 31 | 3, -1, -2}) {
      ORDINARY.refuses("addConstraint with members " + members, ARGUMENT, x -> x.addConstraint(0, members, 0, 1));
    }
    for (int members : new int[] {1 << 10 | 1, 2047, 1 << 31 | 1, -1}) {
      FULL.refuses("addConstraint with members " + members, ARGUMENT, x -> x.addConstraint(0, members, 0, 1));
    }
  }

  private static void addConstraintWhenFull() {
    Checks.sentence("5: Throws IllegalStateException if there are 20 constraints");
    FULL.refuses("addConstraint of kind 0", STATE, x -> x.addConstraint(0, 3, 0, 1));
    FULL.refuses("addConstraint of kind 5", STATE, x -> x.addConstraint(5, 1023, -50, 9));
  }

  private static void removeConstraint() {
    Checks.sentence("6: Throws IndexOutOfBoundsException if there is no such constraint");
    EMPTY.refuses("removeConstraint(0)", INDEX, x -> x.removeConstraint(0));
    PLAIN.refuses("removeConstraint(0)", INDEX, x -> x.removeConstraint(0));
    for (int constraint : new int[] {-1, 2, LEAST, GREATEST}) {
      ORDINARY.refuses("removeConstraint(" + constraint + ")", INDEX, x -> x.removeConstraint(constraint));
    }
    FULL.refuses("removeConstraint(20)", INDEX, x -> x.removeConstraint(20));
  }

  private static void setWeight() {
    Checks.sentence("7: Throws IndexOutOfBoundsException if there is no such constraint");
    PLAIN.refuses("setWeight(0, 1)", INDEX, x -> x.setWeight(0, 1));
    for (int constraint : new int[] {-1, 2, LEAST, GREATEST}) {
      ORDINARY.refuses("setWeight(" + constraint + ", 1)", INDEX, x -> x.setWeight(constraint, 1));
    }
    FULL.refuses("setWeight(20, 1)", INDEX, x -> x.setWeight(20, 1));
    Checks.sentence("7, D: If several exceptions apply, the one that is documented first is thrown");
    for (int weight : new int[] {0, 10}) {
      ORDINARY.refuses("setWeight(-1, " + weight + ")", INDEX, x -> x.setWeight(-1, weight));
      ORDINARY.refuses("setWeight(2, " + weight + ")", INDEX, x -> x.setWeight(2, weight));
      FULL.refuses("setWeight(20, " + weight + ")", INDEX, x -> x.setWeight(20, weight));
    }
    Checks.sentence("7: Throws IllegalArgumentException if weight is out of range");
    for (int weight : new int[] {0, 10, -1, LEAST, GREATEST}) {
      ORDINARY.refuses("setWeight(1, " + weight + ")", ARGUMENT, x -> x.setWeight(1, weight));
    }
  }

  private static void setValue() {
    Checks.sentence("8: Throws IndexOutOfBoundsException if there is no such variable");
    EMPTY.refuses("setValue(0, 0)", INDEX, x -> x.setValue(0, 0));
    FULL.refuses("setValue(10, 0)", INDEX, x -> x.setValue(10, 0));
    for (int variable : new int[] {-1, 3, LEAST, GREATEST}) {
      Checks.sentence("8: Throws IndexOutOfBoundsException if there is no such variable");
      ORDINARY.refuses("setValue(" + variable + ", 0)", INDEX, x -> x.setValue(variable, 0));
      Checks.sentence("8, D: If several exceptions apply, the one that is documented first is thrown");
      ORDINARY.refuses("setValue(" + variable + ", -1)", INDEX, x -> x.setValue(variable, -1));
      ORDINARY.refuses("setValue(" + variable + ", 8)", INDEX, x -> x.setValue(variable, 8));
    }
    Checks.sentence("8: Throws IllegalArgumentException if value is not in its domain");
    for (int value : new int[] {-1, 3, 4, LEAST, GREATEST}) {
      ORDINARY.refuses("setValue(0, " + value + ")", ARGUMENT, x -> x.setValue(0, value));
    }
    ORDINARY.refuses("setValue(1, 5)", ARGUMENT, x -> x.setValue(1, 5));
    ORDINARY.refuses("setValue(2, 2)", ARGUMENT, x -> x.setValue(2, 2));
    FULL.refuses("setValue(9, 8)", ARGUMENT, x -> x.setValue(9, 8));
  }

  private static void count() {
    Checks.sentence("9: Throws IllegalArgumentException if what is not 0 to 3");
    for (int what : new int[] {-1, 4, LEAST, GREATEST}) {
      EMPTY.refuses("count(" + what + ")", ARGUMENT, x -> x.count(what));
      ORDINARY.refuses("count(" + what + ")", ARGUMENT, x -> x.count(what));
    }
  }

  private static void constraint() {
    Checks.sentence("10: Throws IndexOutOfBoundsException if there is no such constraint");
    PLAIN.refuses("constraint(0, 0)", INDEX, x -> x.constraint(0, 0));
    FULL.refuses("constraint(20, 0)", INDEX, x -> x.constraint(20, 0));
    for (int constraint : new int[] {-1, 2, LEAST, GREATEST}) {
      Checks.sentence("10: Throws IndexOutOfBoundsException if there is no such constraint");
      ORDINARY.refuses("constraint(" + constraint + ", 0)", INDEX, x -> x.constraint(constraint, 0));
      Checks.sentence("10, D: If several exceptions apply, the one that is documented first is thrown");
      ORDINARY.refuses("constraint(" + constraint + ", -1)", INDEX, x -> x.constraint(constraint, -1));
      ORDINARY.refuses("constraint(" + constraint + ", 4)", INDEX, x -> x.constraint(constraint, 4));
    }
    Checks.sentence("10: Throws IllegalArgumentException if what is not 0 to 3");
    for (int what : new int[] {-1, 4, LEAST, GREATEST}) {
      ORDINARY.refuses("constraint(1, " + what + ")", ARGUMENT, x -> x.constraint(1, what));
    }
  }

  private static void variable() {
    Checks.sentence("11: Throws IndexOutOfBoundsException if there is no such variable");
    EMPTY.refuses("variable(0, 0)", INDEX, x -> x.variable(0, 0));
    FULL.refuses("variable(10, 0)", INDEX, x -> x.variable(10, 0));
    for (int variable : new int[] {-1, 3, LEAST, GREATEST}) {
      Checks.sentence("11: Throws IndexOutOfBoundsException if there is no such variable");
      ORDINARY.refuses("variable(" + variable + ", 0)", INDEX, x -> x.variable(variable, 0));
      Checks.sentence("11, D: If several exceptions apply, the one that is documented first is thrown");
      ORDINARY.refuses("variable(" + variable + ", -1)", INDEX, x -> x.variable(variable, -1));
      ORDINARY.refuses("variable(" + variable + ", 5)", INDEX, x -> x.variable(variable, 5));
    }
    Checks.sentence("11: Throws IllegalArgumentException if what is not 0 to 4");
    for (int what : new int[] {-1, 5, LEAST, GREATEST}) {
      ORDINARY.refuses("variable(2, " + what + ")", ARGUMENT, x -> x.variable(2, what));
    }
  }

  private static void violation() {
    Checks.sentence("14: Throws IndexOutOfBoundsException if there is no such constraint");
    PLAIN.refuses("violation(0, true)", INDEX, x -> x.violation(0, true));
    PLAIN.refuses("violation(0, false)", INDEX, x -> x.violation(0, false));
    for (int constraint : new int[] {-1, 2, LEAST, GREATEST}) {
      ORDINARY.refuses("violation(" + constraint + ", true)", INDEX, x -> x.violation(constraint, true));
      ORDINARY.refuses("violation(" + constraint + ", false)", INDEX, x -> x.violation(constraint, false));
    }
    FULL.refuses("violation(20, true)", INDEX, x -> x.violation(20, true));
    FULL.refuses("violation(20, false)", INDEX, x -> x.violation(20, false));
  }

  private static void mostBlamed() {
    Checks.sentence("15: Throws NoSuchElementException if there are no variables");
    EMPTY.refuses("mostBlamed()", MISSING, TabuSolver::mostBlamed);
    Checks.sentence("15: Throws NoSuchElementException if .. all conflicts are 0");
    PLAIN.refuses("mostBlamed()", MISSING, TabuSolver::mostBlamed);
    STUCK.refuses("mostBlamed()", MISSING, TabuSolver::mostBlamed);
  }

  private static void relief() {
    Checks.sentence("16: Throws IndexOutOfBoundsException if there is no such variable");
    EMPTY.refuses("relief(0)", INDEX, x -> x.relief(0));
    for (int variable : new int[] {-1, 3, LEAST, GREATEST}) {
      ORDINARY.refuses("relief(" + variable + ")", INDEX, x -> x.relief(variable));
    }
    FULL.refuses("relief(10)", INDEX, x -> x.relief(10));
  }

  private static void settings() {
    Checks.sentence("18: Throws IllegalArgumentException if kinds is out of range");
    for (int kinds : new int[] {-1, 16, LEAST, GREATEST}) {
      ORDINARY.refuses("setNeighborhood(" + kinds + ")", ARGUMENT, x -> x.setNeighborhood(kinds));
    }
    Checks.sentence("19: Throws IllegalArgumentException if tenure is out of range");
    for (int tenure : new int[] {-1, 21, LEAST, GREATEST}) {
      ORDINARY.refuses("setTenure(" + tenure + ")", ARGUMENT, x -> x.setTenure(tenure));
    }
    Checks.sentence("20: Throws IllegalArgumentException if patience is out of range");
    for (int patience : new int[] {0, 101, -1, LEAST, GREATEST}) {
      ORDINARY.refuses("setPatience(" + patience + ")", ARGUMENT, x -> x.setPatience(patience));
    }
    Checks.sentence("21: Throws IllegalArgumentException if seed is negative");
    for (int seed : new int[] {-1, -2, LEAST}) {
      ORDINARY.refuses("setSeed(" + seed + ")", ARGUMENT, x -> x.setSeed(seed));
    }
  }

  private static void move() {
    Checks.sentence("23: Throws IndexOutOfBoundsException if there is no such move");
    EMPTY.refuses("move(0, 0)", INDEX, x -> x.move(0, 0));
    // The plain state has eight sets, no swap, since both values are 0, and four shifts.
    FULL.refuses("move(20, 0)", INDEX, x -> x.move(20, 0));
    for (int index : new int[] {-1, 12, LEAST, GREATEST}) {
      Checks.sentence("23: Throws IndexOutOfBoundsException if there is no such move");
      PLAIN.refuses("move(" + index + ", 0)", INDEX, x -> x.move(index, 0));
      PLAIN.refuses("move(" + index + ", 5)", INDEX, x -> x.move(index, 5));
      Checks.sentence("23, D: If several exceptions apply, the one that is documented first is thrown");
      PLAIN.refuses("move(" + index + ", -1)", INDEX, x -> x.move(index, -1));
      PLAIN.refuses("move(" + index + ", 6)", INDEX, x -> x.move(index, 6));
    }
    Checks.sentence("23: Throws IllegalArgumentException if what is not 0 to 5");
    for (int what : new int[] {-1, 6, LEAST, GREATEST}) {
      PLAIN.refuses("move(11, " + what + ")", ARGUMENT, x -> x.move(11, what));
      ORDINARY.refuses("move(0, " + what + ")", ARGUMENT, x -> x.move(0, what));
    }
  }

  private static void nextMove() {
    Checks.sentence("24: Throws NoSuchElementException if there is no possible move that is not held");
    EMPTY.refuses("nextMove()", MISSING, TabuSolver::nextMove);
    STUCK.refuses("nextMove()", MISSING, TabuSolver::nextMove);
  }

  private static void isForbidden() {
    Checks.sentence("25: Throws IndexOutOfBoundsException if there is no such variable");
    EMPTY.refuses("isForbidden(0, 0)", INDEX, x -> x.isForbidden(0, 0));
    FULL.refuses("isForbidden(10, 0)", INDEX, x -> x.isForbidden(10, 0));
    for (int variable : new int[] {-1, 3, LEAST, GREATEST}) {
      Checks.sentence("25: Throws IndexOutOfBoundsException if there is no such variable");
      ORDINARY.refuses("isForbidden(" + variable + ", 0)", INDEX, x -> x.isForbidden(variable, 0));
      Checks.sentence("25, D: If several exceptions apply, the one that is documented first is thrown");
      ORDINARY.refuses("isForbidden(" + variable + ", -1)", INDEX, x -> x.isForbidden(variable, -1));
      ORDINARY.refuses("isForbidden(" + variable + ", 8)", INDEX, x -> x.isForbidden(variable, 8));
    }
    Checks.sentence("25: Throws IllegalArgumentException if value is not in its domain");
    for (int value : new int[] {-1, 2, 3, LEAST, GREATEST}) {
      ORDINARY.refuses("isForbidden(2, " + value + ")", ARGUMENT, x -> x.isForbidden(2, value));
    }
    ORDINARY.refuses("isForbidden(1, 5)", ARGUMENT, x -> x.isForbidden(1, 5));
    FULL.refuses("isForbidden(9, 8)", ARGUMENT, x -> x.isForbidden(9, 8));
  }

  private static void step() {
    Checks.sentence("27: Throws NoSuchElementException if there is no possible move that is not held");
    EMPTY.refuses("step()", MISSING, TabuSolver::step);
    STUCK.refuses("step()", MISSING, TabuSolver::step);
    State still = new State("still", () -> {
      TabuSolver x = Samples.ordinary();
      x.setNeighborhood(0);
      return x;
    });
    still.refuses("step()", MISSING, TabuSolver::step);
    still.refuses("nextMove()", MISSING, TabuSolver::nextMove);
  }

  private static void run() {
    Checks.sentence("28: Throws IllegalArgumentException if steps is out of range");
    for (int steps : new int[] {0, 31, -1, LEAST, GREATEST}) {
      EMPTY.refuses("run(" + steps + ")", ARGUMENT, x -> x.run(steps));
      ORDINARY.refuses("run(" + steps + ")", ARGUMENT, x -> x.run(steps));
      STUCK.refuses("run(" + steps + ")", ARGUMENT, x -> x.run(steps));
    }
  }

  private static void search() {
    Checks.sentence("31: Throws IllegalArgumentException if what is not 0 to 4");
    for (int what : new int[] {-1, 5, LEAST, GREATEST}) {
      EMPTY.refuses("search(" + what + ")", ARGUMENT, x -> x.search(what));
      ORDINARY.refuses("search(" + what + ")", ARGUMENT, x -> x.search(what));
    }
  }

  private static void log() {
    Checks.sentence("33: Throws IndexOutOfBoundsException if there is no such move");
    EMPTY.refuses("log(0, 0)", INDEX, x -> x.log(0, 0));
    PLAIN.refuses("log(0, 0)", INDEX, x -> x.log(0, 0));
    FULL.refuses("log(40, 0)", INDEX, x -> x.log(40, 0));
    for (int index : new int[] {-1, 5, LEAST, GREATEST}) {
      Checks.sentence("33: Throws IndexOutOfBoundsException if there is no such move");
      ORDINARY.refuses("log(" + index + ", 0)", INDEX, x -> x.log(index, 0));
      Checks.sentence("33, D: If several exceptions apply, the one that is documented first is thrown");
      ORDINARY.refuses("log(" + index + ", -1)", INDEX, x -> x.log(index, -1));
      ORDINARY.refuses("log(" + index + ", 6)", INDEX, x -> x.log(index, 6));
    }
    Checks.sentence("33: Throws IllegalArgumentException if what is not 0 to 5");
    for (int what : new int[] {-1, 6, LEAST, GREATEST}) {
      ORDINARY.refuses("log(4, " + what + ")", ARGUMENT, x -> x.log(4, what));
      FULL.refuses("log(39, " + what + ")", ARGUMENT, x -> x.log(39, what));
    }
  }

  private static void improvingShare() {
    Checks.sentence("34: Throws ArithmeticException if the log is empty");
    EMPTY.refuses("improvingShare()", ArithmeticException.class, TabuSolver::improvingShare);
    PLAIN.refuses("improvingShare()", ArithmeticException.class, TabuSolver::improvingShare);
    State begun = new State("begun", () -> {
      TabuSolver x = Samples.ordinary();
      x.setValue(0, 0);
      return x;
    });
    begun.refuses("improvingShare()", ArithmeticException.class, TabuSolver::improvingShare);
  }

  private static void exactAnswers() {
    // No product of sizes from 2 to 8 lies between 5000 and 5040.
    State justTooMany = new State("5040", () -> Checks.solver(7, 6, 5, 4, 3, 2));
    for (State state : List.of(justTooMany, FULL)) {
      Checks.sentence("35: Throws IllegalStateException if there are more than 5000 combinations");
      state.refuses("optimum()", STATE, TabuSolver::optimum);
      Checks.sentence("36: Throws IllegalStateException if there are more than 5000 combinations");
      state.refuses("optima()", STATE, TabuSolver::optima);
      Checks.sentence("37: Throws IllegalStateException if there are more than 5000 combinations");
      state.refuses("optimalValue(0)", STATE, x -> x.optimalValue(0));
      state.refuses("optimalValue(5)", STATE, x -> x.optimalValue(5));
      Checks.sentence("38: Throws IllegalStateException if there are more than 5000 combinations");
      state.refuses("worst()", STATE, TabuSolver::worst);
      Checks.sentence("39: Throws IllegalStateException if there are more than 5000 combinations");
      state.refuses("unavoidable()", STATE, TabuSolver::unavoidable);
      Checks.sentence("37, D: If several exceptions apply, the one that is documented first is thrown");
      state.refuses("optimalValue(-1)", INDEX, x -> x.optimalValue(-1));
      state.refuses("optimalValue(10)", INDEX, x -> x.optimalValue(10));
    }
    justTooMany.refuses("optimalValue(6)", INDEX, x -> x.optimalValue(6));
  }

  private static void optimalValue() {
    Checks.sentence("37: Throws IndexOutOfBoundsException if there is no such variable");
    EMPTY.refuses("optimalValue(0)", INDEX, x -> x.optimalValue(0));
    for (int variable : new int[] {-1, 3, LEAST, GREATEST}) {
      ORDINARY.refuses("optimalValue(" + variable + ")", INDEX, x -> x.optimalValue(variable));
    }
  }

  private static void append() {
    Checks.sentence("40: Throws IllegalArgumentException if the character code is out of range");
    for (int code : new int[] {0, 10, 31, 127, 128, 255, 256 + 'v', 65535}) {
      Checks.sentence("40: Throws IllegalArgumentException if the character code is out of range");
      ORDINARY.refuses("append of code " + code, ARGUMENT, x -> x.append((char) code));
      Checks.sentence("40, D: If several exceptions apply, the one that is documented first is thrown");
      FULL.refuses("append of code " + code, ARGUMENT, x -> x.append((char) code));
    }
    Checks.sentence("40: Throws IllegalStateException if the input has 60 characters");
    for (int code : new int[] {32, ';', 126}) {
      FULL.refuses("append of code " + code, STATE, x -> x.append((char) code));
    }
  }

  private static void errorPosition() {
    Checks.sentence("42: Throws NoSuchElementException if none was kept");
    EMPTY.refuses("errorPosition()", MISSING, TabuSolver::errorPosition);
    FULL.refuses("errorPosition()", MISSING, TabuSolver::errorPosition);
  }

  private static void describe() {
    Checks.sentence("43: Throws IndexOutOfBoundsException if there is no such constraint");
    PLAIN.refuses("describe(0, -1)", INDEX, x -> x.describe(0, -1));
    FULL.refuses("describe(20, 0)", INDEX, x -> x.describe(20, 0));
    for (int constraint : new int[] {-1, 2, LEAST, GREATEST}) {
      Checks.sentence("43: Throws IndexOutOfBoundsException if there is no such constraint");
      ORDINARY.refuses("describe(" + constraint + ", -1)", INDEX, x -> x.describe(constraint, -1));
      ORDINARY.refuses("describe(" + constraint + ", 0)", INDEX, x -> x.describe(constraint, 0));
      Checks.sentence("43, D: If several exceptions apply, the one that is documented first is thrown");
      ORDINARY.refuses("describe(" + constraint + ", -2)", INDEX, x -> x.describe(constraint, -2));
      ORDINARY.refuses("describe(" + constraint + ", 99)", INDEX, x -> x.describe(constraint, 99));
    }
    Checks.sentence("43: Throws NoSuchElementException if index is not -1, and there is no such character");
    // The text of both constraints has nine characters: c012:6*2; and a012:0*4;
    for (int index : new int[] {-2, 9, 10, 18, LEAST, GREATEST}) {
      ORDINARY.refuses("describe(0, " + index + ")", MISSING, x -> x.describe(0, index));
      ORDINARY.refuses("describe(1, " + index + ")", MISSING, x -> x.describe(1, index));
    }
  }

  private static void undo() {
    Checks.sentence("44: Throws NoSuchElementException if no change is remembered");
    EMPTY.refuses("undo()", MISSING, TabuSolver::undo);
    State undone = new State("undone", () -> {
      TabuSolver x = Samples.full();
      for (int i = 0; i < 8; i++) {
        x.undo();
      }
      x.step();
      return x;
    });
    undone.refuses("undo()", MISSING, TabuSolver::undo);
    State restored = new State("restored", () -> {
      TabuSolver x = Samples.ordinary();
      x.restore();
      x.step();
      return x;
    });
    restored.refuses("undo()", MISSING, TabuSolver::undo);
    State cleared = new State("cleared", () -> {
      TabuSolver x = Samples.ordinary();
      x.clear();
      return x;
    });
    cleared.refuses("undo()", MISSING, TabuSolver::undo);
  }

  private static void restore() {
    Checks.sentence("46: Throws IllegalStateException if nothing was saved");
    EMPTY.refuses("restore()", STATE, TabuSolver::restore);
    PLAIN.refuses("restore()", STATE, TabuSolver::restore);
    STUCK.refuses("restore()", STATE, TabuSolver::restore);
  }
}
