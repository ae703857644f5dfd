import java.util.ArrayList;
import java.util.List;

/**
 * All that calls can tell of an object's state. Some parts can't be asked without a change (the input, what was saved,
 * the history, what steps would do), so each part is asked of an object of its own that has been made in the same way.
 */
final class Portrait {
  interface Maker {
    TabuSolver make();
  }

  interface Use {
    Object on(TabuSolver x);
  }

  private static final int MOST_MOVES_SHOWN = 60;
  private static final int FUTURE_STEPS = 24;
  private static final int MOST_UNDONE = 9;

  private final List<String> lines = new ArrayList<>();

  private Portrait() {
  }

  /** The lines that tell the state after a use of an object, whatever the use answers. */
  static List<String> after(Maker maker, Use use) {
    Maker used = () -> {
      TabuSolver x = maker.make();
      Checks.outcome(() -> use.on(x));
      return x;
    };
    Portrait portrait = new Portrait();
    portrait.problem("", used.make());
    portrait.values(used.make());
    portrait.search(used.make());
    portrait.log(used.make());
    portrait.moves(used.make());
    portrait.exactAnswers(used.make());
    portrait.settings(used.make());
    portrait.future(used.make());
    portrait.past(used);
    portrait.saved(used.make());
    portrait.input(used);
    return portrait.lines;
  }

  static List<String> of(Maker maker) {
    return after(maker, x -> 0);
  }

  /** The first line that differs, or nothing. */
  static String difference(List<String> one, List<String> other) {
    for (int i = 0; i < Math.max(one.size(), other.size()); i++) {
      String a = i < one.size() ? one.get(i) : "nothing";
      String b = i < other.size() ? other.get(i) : "nothing";
      if (!a.equals(b)) {
        return a + " became " + b;
      }
    }
    return "";
  }

  private void put(String name, Checks.Call call) {
    lines.add(name + " = " + Checks.outcome(call));
  }

  private void problem(String name, TabuSolver x) {
    put(name + "variables", () -> x.count(0));
    put(name + "constraints", () -> x.count(1));
    for (int v = 0; v < x.count(0); v++) {
      int variable = v;
      put(name + "size of " + v, () -> x.variable(variable, 0));
      put(name + "value of " + v, () -> x.variable(variable, 1));
    }
    for (int c = 0; c < x.count(1); c++) {
      for (int what = 0; what < 4; what++) {
        int constraint = c;
        int part = what;
        put(name + "constraint " + c + ", " + what, () -> x.constraint(constraint, part));
      }
    }
  }

  private void values(TabuSolver x) {
    put("violated constraints", () -> x.count(2));
    put("combinations", () -> x.count(3));
    put("best values", () -> Checks.bestValues(x));
    put("most blamed", x::mostBlamed);
    for (int v = 0; v < x.count(0); v++) {
      int variable = v;
      put("conflict of " + v, () -> x.variable(variable, 3));
      put("constraints of " + v, () -> x.variable(variable, 4));
      put("relief of " + v, () -> x.relief(variable));
    }
    for (int c = 0; c < x.count(1); c++) {
      int constraint = c;
      put("violation of " + c, () -> x.violation(constraint, false));
      put("best violation of " + c, () -> x.violation(constraint, true));
      put("length of the text of " + c, () -> x.describe(constraint, -1));
    }
  }

  private void search(TabuSolver x) {
    put("cost", x::cost);
    put("best cost", x::bestCost);
    for (int what = 0; what < 5; what++) {
      int part = what;
      put("search " + what, () -> x.search(part));
    }
    put("next move", x::nextMove);
    put("local optimum", x::isLocalOptimum);
    put("error position", x::errorPosition);
    for (int v = 0; v < x.count(0); v++) {
      for (int value = 0; value < 8; value++) {
        int variable = v;
        int number = value;
        put("forbidden " + v + ", " + value, () -> x.isForbidden(variable, number));
      }
    }
  }

  private void log(TabuSolver x) {
    put("log", x::logSize);
    put("improving share", x::improvingShare);
    for (int i = 0; i < x.logSize(); i++) {
      for (int what = 0; what < 6; what++) {
        int index = i;
        int part = what;
        put("log " + i + ", " + what, () -> x.log(index, part));
      }
    }
  }

  private void moves(TabuSolver x) {
    int all = x.moves(false);
    put("moves", () -> all);
    put("held moves", () -> x.moves(true));
    for (int i = 0; i < Math.min(all, MOST_MOVES_SHOWN); i++) {
      for (int what = 0; what < 6; what++) {
        int index = i;
        int part = what;
        put("move " + i + ", " + what, () -> x.move(index, part));
      }
    }
  }

  private void exactAnswers(TabuSolver x) {
    put("optimum", x::optimum);
    put("optima", x::optima);
    put("worst", x::worst);
    put("unavoidable", x::unavoidable);
    for (int v = 0; v < x.count(0); v++) {
      int variable = v;
      put("optimal value of " + v, () -> x.optimalValue(variable));
    }
  }

  private void settings(TabuSolver x) {
    put("neighborhood", () -> x.setNeighborhood(15));
    put("tenure", () -> x.setTenure(3));
    put("patience", () -> x.setPatience(20));
    put("seed", () -> x.setSeed(1));
  }

  /** Steps tell how long values stay forbidden, and when a restart follows. */
  private void future(TabuSolver x) {
    for (int i = 0; i < FUTURE_STEPS; i++) {
      put("step " + i, x::step);
      put("values after step " + i, () -> Checks.values(x));
      put("restarts after step " + i, () -> x.search(2));
    }
  }

  private void past(Maker maker) {
    for (int undone = 1; undone <= MOST_UNDONE; undone++) {
      TabuSolver x = maker.make();
      for (int i = 1; i < undone; i++) {
        Checks.outcome(x::undo);
      }
      put("undo " + undone, x::undo);
      problem("after undo " + undone + ", ", x);
    }
  }

  private void saved(TabuSolver x) {
    put("restore", x::restore);
    problem("restored ", x);
  }

  private void input(Maker maker) {
    TabuSolver asItIs = maker.make();
    put("read", asItIs::read);
    put("error position after read", asItIs::errorPosition);
    problem("after read, ", asItIs);
    TabuSolver ended = maker.make();
    put("append", () -> ended.append(';'));
    put("read after append", ended::read);
    put("error position after append and read", ended::errorPosition);
    problem("after append and read, ", ended);
  }
}
