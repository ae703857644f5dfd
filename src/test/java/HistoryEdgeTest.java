import java.util.ArrayList;
import java.util.List;
import java.util.NoSuchElementException;

/** What the document's sentences on the history and promises 44 to 46 name as boundary cases. */
public final class HistoryEdgeTest {
  public static void main(String[] args) {
    nothingIsRemembered();
    eachChangeIsRemembered();
    equalChangesAreRemembered();
    lastEightChanges();
    eightAfterUndo();
    otherCallsAreNoChanges();
    refusedCallsAreNoChanges();
    clearAndRestoreForget();
    undoOfTheFull();
    undoBringsBackValues();
    undoBringsBackThePresentValues();
    undoBeginsTheSearch();
    undoLeavesTheRest();
    nothingWasSaved();
    savedIsReplaced();
    savedIsACopy();
    savedValues();
    saveChangesNothingElse();
    restoreBeginsTheSearch();
    restoreLeavesTheRest();
    restoreOfTheFull();
    Checks.finish("HistoryEdgeTest");
  }

  /** Sizes with values, and the texts of the constraints. */
  private static String problem(TabuSolver x) {
    StringBuilder text = new StringBuilder();
    int variables = x.count(0);
    for (int v = 0; v < variables; v++) {
      text.append(x.variable(v, 0)).append('/').append(x.variable(v, 1)).append(' ');
    }
    int constraints = x.count(1);
    for (int c = 0; c < constraints; c++) {
      text.append(Checks.description(x, c));
    }
    return text.toString();
  }

  /** Two sizes with values and a weight. */
  private static String inShort(TabuSolver x) {
    return x.variable(0, 0) + "/" + x.variable(0, 1) + " " + x.variable(1, 0) + "/" + x.variable(1, 1) + " "
        + x.constraint(0, 3);
  }

  private static String numbers(TabuSolver x) {
    return x.search(0) + " " + x.search(1) + " " + x.search(2) + " " + x.search(4) + " " + x.logSize();
  }

  private static void nothingIsRemembered() {
    Checks.sentence("44: Throws NoSuchElementException if no change is remembered");
    TabuSolver x = new TabuSolver();
    Checks.fails("undo at first", NoSuchElementException.class, x::undo);
    x.addVariable(2);
    Checks.due("undo of the only one", 0, x.undo());
    Checks.fails("undo again", NoSuchElementException.class, x::undo);
    Checks.due("no variables", 0, x.count(0));
  }

  private static void eachChangeIsRemembered() {
    Checks.sentence("D: A change is a call of addVariable, setDomain, addConstraint, removeConstraint, setWeight or read");
    List<Portrait.Use> changes = List.of(x -> x.addVariable(2), x -> x.setDomain(1, 2), x -> x.addConstraint(4, 5, 1, 1),
        x -> x.removeConstraint(0), x -> x.setWeight(1, 9), x -> {
          Checks.type(x, "v4;b23:1*3;");
          return x.read();
        });
    for (int i = 0; i < changes.size(); i++) {
      TabuSolver x = Checks.withValues(Checks.solver(3, 5, 2), 2, 4, 1);
      x.addConstraint(2, 7, 4, 3);
      x.addConstraint(0, 6, 0, 2);
      String before = problem(x);
      changes.get(i).on(x);
      Checks.due("change " + i + " changes something", false, before.equals(problem(x)));
      Checks.due("undo of change " + i, 5, x.undo());
      Checks.due("the state before change " + i, before, problem(x));
    }
  }

  private static void equalChangesAreRemembered() {
    Checks.sentence("D: A call that is named under History is a change also if nothing is different then");
    TabuSolver x = Checks.solver(3, 3);
    x.addConstraint(0, 3, 0, 4);
    x.setDomain(1, 3);
    x.setWeight(0, 4);
    x.setWeight(0, 4);
    Checks.due("undo of a weight", 5, x.undo());
    Checks.due("undo of a weight again", 4, x.undo());
    Checks.due("undo of a size", 3, x.undo());
    Checks.due("nothing was different", "3/0 3/0 a01:0*4;", problem(x));
    Checks.due("undo of the constraint", 2, x.undo());
  }

  private static void lastEightChanges() {
    Checks.sentence("D: The object remembers .. before the last 8 changes");
    for (int changes = 0; changes <= 34; changes++) {
      TabuSolver x = Checks.solver(2, 2);
      x.addConstraint(2, 3, 2, 1);
      x.save();
      x.restore();
      List<String> states = new ArrayList<>();
      for (int i = 0; i < changes; i++) {
        states.add(inShort(x));
        if (i % 3 == 0) {
          x.setWeight(0, i % 9 + 1);
        } else {
          x.setDomain(i % 2, 2 + i % 7);
          x.setValue(i % 2, i % 2);
        }
      }
      int remembered = Math.min(changes, 8);
      for (int left = remembered - 1; left >= 0; left--) {
        Checks.due("undo after " + changes + " changes", left, x.undo());
        Checks.due("state " + left + " after " + changes, states.get(changes - remembered + left), inShort(x));
      }
      Checks.fails("one more after " + changes, NoSuchElementException.class, x::undo);
    }
  }

  private static void eightAfterUndo() {
    Checks.sentence("44: Returns the number of changes that are still remembered");
    TabuSolver x = Checks.solver(2, 2);
    x.addConstraint(2, 3, 2, 1);
    for (int weight = 1; weight <= 9; weight++) {
      x.setWeight(0, weight);
    }
    Checks.due("undo of eight", 7, x.undo());
    Checks.due("undo of seven", 6, x.undo());
    Checks.due("undo of six", 5, x.undo());
    Checks.due("weight", 6, x.constraint(0, 3));
    x.setWeight(0, 1);
    Checks.due("an undone change is not remembered", 5, x.undo());
    Checks.due("weight ahead of the change", 6, x.constraint(0, 3));
    for (int weight = 2; weight <= 6; weight++) {
      x.setWeight(0, weight);
    }
    StringBuilder weights = new StringBuilder();
    for (int left = 7; left >= 0; left--) {
      Checks.due("undo of eight again", left, x.undo());
      weights.append(x.constraint(0, 3));
    }
    Checks.due("weights on the way back", "54326543", weights.toString());
    Checks.fails("no further", NoSuchElementException.class, x::undo);
  }

  private static void otherCallsAreNoChanges() {
    Checks.sentence("D: A change is a call of addVariable, setDomain, addConstraint, removeConstraint, setWeight or read");
    List<Portrait.Use> calls = List.of(x -> x.setValue(0, 1), TabuSolver::takeBest, x -> x.setNeighborhood(3),
        x -> x.setTenure(1), x -> x.setPatience(1), x -> x.setSeed(1), TabuSolver::step, x -> x.run(2),
        TabuSolver::descend, TabuSolver::restart, x -> x.append(';'), TabuSolver::save, TabuSolver::optimum,
        x -> x.moves(true), x -> x.describe(0, 0));
    for (int i = 0; i < calls.size(); i++) {
      TabuSolver x = Samples.ordinary();
      calls.get(i).on(x);
      Checks.due("changes after call " + i, 6, x.undo());
      Checks.due("the state ahead of setWeight", "3/0 5/0 2/0 c012:6*2;a012:0*3;", problem(x));
    }
  }

  private static void refusedCallsAreNoChanges() {
    Checks.sentence("D: A change is a call .. that returns without an exception");
    List<Portrait.Use> calls = List.of(x -> x.addVariable(9), x -> x.setDomain(0, 9), x -> x.setDomain(3, 3),
        x -> x.addConstraint(0, 1, 0, 1), x -> x.removeConstraint(2), x -> x.setWeight(0, 0), x -> x.setWeight(2, 1),
        TabuSolver::read, x -> {
          Checks.type(x, ";a09:0*1;");
          return x.read();
        });
    for (int i = 0; i < calls.size(); i++) {
      TabuSolver x = Samples.ordinary();
      Portrait.Use call = calls.get(i);
      Checks.due("call " + i + " is refused", true, Checks.outcome(() -> call.on(x)) instanceof String);
      Checks.due("changes after call " + i, 6, x.undo());
      Checks.due("the state ahead of setWeight", "3/0 5/0 2/0 c012:6*2;a012:0*3;", problem(x));
    }
  }

  private static void clearAndRestoreForget() {
    Checks.sentence("D: clear and restore forget them");
    TabuSolver x = Samples.ordinary();
    x.clear();
    Checks.fails("undo after clear", NoSuchElementException.class, x::undo);
    x.addVariable(2);
    x.addVariable(3);
    Checks.due("undo of a change after clear", 1, x.undo());
    Checks.due("its state", "2/0 ", problem(x));
    x.restore();
    Checks.fails("undo after restore", NoSuchElementException.class, x::undo);
    x.setDomain(0, 8);
    Checks.due("undo of a change after restore", 0, x.undo());
    Checks.due("its state then", "3/0 4/0 2/0 c012:6*2;a012:0*3;", problem(x));
    x.setDomain(0, 8);
    Checks.due("clear of an object with changes", 3, x.clear());
    Checks.fails("undo after it", NoSuchElementException.class, x::undo);
  }

  private static void undoOfTheFull() {
    Checks.sentence("44: Undoes the latest change that is remembered");
    TabuSolver x = Samples.full();
    x.removeConstraint(0);
    Checks.due("nineteen constraints", 19, x.count(1));
    Checks.due("undo", 7, x.undo());
    Checks.due("twenty constraints", 20, x.count(1));
    Checks.due("the first one", "a0123456789:-4*1;", Checks.description(x, 0));
    Checks.due("the last one", "b012345678:15*2;", Checks.description(x, 19));
    Checks.due("undo of the last constraint", 6, x.undo());
    Checks.due("nineteen constraints then", 19, x.count(1));
    Checks.fails("the last one is gone", IndexOutOfBoundsException.class, () -> x.constraint(19, 0));
    TabuSolver y = Checks.solver(8, 8, 8, 8, 8, 8, 8, 8, 8, 8);
    Checks.due("undo of the tenth variable", 7, y.undo());
    Checks.fails("it is gone", IndexOutOfBoundsException.class, () -> y.variable(9, 0));
  }

  private static void undoBringsBackValues() {
    Checks.sentence("D: undo brings back the values as they were just ahead of the change");
    TabuSolver x = Checks.withValues(Checks.solver(8, 8), 7, 6);
    x.setDomain(0, 3);
    Checks.due("after setDomain", "3/2 8/6 ", problem(x));
    x.setValue(0, 1);
    x.setValue(1, 5);
    Checks.due("undo of setDomain", 2, x.undo());
    Checks.due("the value that the domain lost, and the other one", "8/7 8/6 ", problem(x));
    x.addConstraint(2, 3, 0, 1);
    x.setNeighborhood(1);
    x.run(2);
    Checks.due("values after two steps", "8/0 8/0 c01:0*1;", problem(x));
    x.setWeight(0, 2);
    x.setValue(0, 3);
    x.undo();
    Checks.due("values between the steps and setWeight", "8/0 8/0 c01:0*1;", problem(x));
    x.undo();
    Checks.due("values ahead of the constraint", "8/7 8/6 ", problem(x));
    x.undo();
    Checks.due("one variable, at the value that it had then", "8/0 ", problem(x));
  }

  private static void undoBringsBackThePresentValues() {
    Checks.sentence("D: The object remembers the variables with their domains and values");
    TabuSolver x = Checks.solver(4, 4);
    x.addConstraint(2, 3, 0, 1);
    x.setNeighborhood(4);
    x.step();
    Checks.due("present and best values", "10 00", Checks.values(x) + " " + Checks.bestValues(x));
    x.setWeight(0, 5);
    x.undo();
    Checks.due("the present ones are brought back", "10 10", Checks.values(x) + " " + Checks.bestValues(x));
    Checks.due("and their cost is the best one", 1, x.bestCost());
  }

  private static void undoBeginsTheSearch() {
    Checks.sentence("D: After undo and restore, the search begins");
    TabuSolver x = Samples.ordinary();
    Checks.due("ahead", "5 3 1 2 5", numbers(x));
    x.undo();
    Checks.due("after undo", "0 0 0 0 0", numbers(x));
    Checks.due("best values", Checks.values(x), Checks.bestValues(x));
    Checks.due("best cost", x.cost(), x.bestCost());
    Checks.due("held moves", 0, x.moves(true));
    Checks.due("a forbidden value", false, x.isForbidden(0, 1) || x.isForbidden(0, 2) || x.isForbidden(2, 0));
  }

  private static void undoLeavesTheRest() {
    Checks.sentence("D: save, restore and undo leave the neighborhood, the tenure, the patience and the seed");
    TabuSolver x = Samples.ordinary();
    int seed = x.search(3);
    x.undo();
    x.undo();
    Checks.due("neighborhood", 7, x.setNeighborhood(7));
    Checks.due("tenure", 5, x.setTenure(5));
    Checks.due("patience", 6, x.setPatience(6));
    Checks.due("seed", seed, x.search(3));
    Checks.due("error position", 3, x.errorPosition());
    Checks.due("length of the input", 3, x.append(';'));
    Checks.due("the input", 1, x.read());
    Checks.due("what was saved", 3, x.restore());
    Checks.due("its second size", 4, x.variable(1, 0));
  }

  private static void nothingWasSaved() {
    Checks.sentence("46: Throws IllegalStateException if nothing was saved");
    TabuSolver x = new TabuSolver();
    Checks.fails("at first", IllegalStateException.class, x::restore);
    x.addVariable(2);
    x.undo();
    x.clear();
    Checks.fails("after other calls", IllegalStateException.class, x::restore);
    Checks.due("save of nothing", 0, x.save());
    x.addVariable(3);
    Checks.due("restore of nothing", 0, x.restore());
    Checks.due("no variables", 0, x.count(0));
  }

  private static void savedIsReplaced() {
    Checks.sentence("45: What was saved before is replaced");
    TabuSolver x = Checks.withValues(Checks.solver(5, 6), 4, 5);
    x.addConstraint(2, 3, 0, 1);
    Checks.due("save", 2, x.save());
    x.removeConstraint(0);
    x.addVariable(7);
    x.setValue(0, 1);
    Checks.due("save again", 3, x.save());
    x.clear();
    Checks.due("restore", 3, x.restore());
    Checks.due("the second one", "5/1 6/5 7/0 ", problem(x));
    x.clear();
    Checks.due("save of nothing", 0, x.save());
    x.addVariable(2);
    Checks.due("restore of nothing", 0, x.restore());
    Checks.due("nothing", "", problem(x));
  }

  private static void savedIsACopy() {
    Checks.sentence("46: Restores what was saved. It stays saved");
    TabuSolver x = Checks.withValues(Checks.solver(5, 6), 4, 5);
    x.addConstraint(2, 3, -7, 1);
    x.save();
    String saved = problem(x);
    for (int round = 0; round < 3; round++) {
      x.setDomain(0, 2);
      x.setValue(1, round);
      x.setWeight(0, 9);
      x.removeConstraint(0);
      x.addVariable(3);
      x.undo();
      Checks.due("restore in round " + round, 2, x.restore());
      Checks.due("restored in round " + round, saved, problem(x));
    }
    x.clear();
    x.restore();
    x.restore();
    Checks.due("after clear and twice", saved, problem(x));
  }

  private static void savedValues() {
    Checks.sentence("45: Saves the variables with their domains and values, and the constraints");
    TabuSolver x = Checks.solver(4, 4);
    x.addConstraint(2, 3, 0, 1);
    x.setNeighborhood(4);
    x.step();
    x.save();
    x.takeBest();
    Checks.due("restore", 2, x.restore());
    Checks.due("the present values, not the best ones", "4/1 4/0 c01:0*1;", problem(x));
    Checks.due("they are the best ones then", "10", Checks.bestValues(x));
    Checks.due("best cost", 1, x.bestCost());
  }

  private static void saveChangesNothingElse() {
    Checks.sentence("45: Saves; D: save, restore and undo leave the neighborhood, the tenure, the patience and the seed");
    List<String> ahead = Portrait.of(Samples::ordinary);
    List<String> then = Portrait.after(Samples::ordinary, TabuSolver::save);
    int saved = 0;
    for (int i = 0; i < ahead.size(); i++) {
      if (ahead.get(i).startsWith("restore")) {
        saved++;
      } else {
        Checks.due("save leaves it", ahead.get(i), then.get(i));
      }
    }
    Checks.due("what is saved is shown", true, saved > 10);
    Checks.due("what is saved is another one", false, ahead.equals(then));
  }

  private static void restoreBeginsTheSearch() {
    Checks.sentence("D: After undo and restore, the search begins");
    TabuSolver x = Samples.ordinary();
    x.save();
    Checks.due("ahead", "5 3 1 2 5", numbers(x));
    Checks.due("restore", 3, x.restore());
    Checks.due("after restore", "0 0 0 0 0", numbers(x));
    Checks.due("best values", "041", Checks.bestValues(x));
    Checks.due("best cost", 2, x.bestCost());
    Checks.due("held moves", 0, x.moves(true));
    Checks.due("a forbidden value", false, x.isForbidden(0, 1) || x.isForbidden(0, 2) || x.isForbidden(2, 0));
  }

  private static void restoreLeavesTheRest() {
    Checks.sentence("D: save, restore and undo leave the neighborhood, the tenure, the patience and the seed");
    TabuSolver x = Samples.ordinary();
    int seed = x.search(3);
    x.restore();
    Checks.due("neighborhood", 7, x.setNeighborhood(7));
    Checks.due("tenure", 5, x.setTenure(5));
    Checks.due("patience", 6, x.setPatience(6));
    Checks.due("seed", seed, x.search(3));
    Checks.due("error position", 3, x.errorPosition());
    Checks.due("length of the input", 3, x.append(';'));
    Checks.due("the input", 1, x.read());
    Checks.due("its variable", 5, x.variable(3, 0));
  }

  private static void restoreOfTheFull() {
    Checks.sentence("46: Returns the number of variables");
    TabuSolver x = Samples.full();
    x.clear();
    Checks.due("ten variables", 10, x.restore());
    Checks.due("twenty constraints", 20, x.count(1));
    Checks.due("the last one", "b012345678:15*2;", Checks.description(x, 19));
    Checks.due("the values that were saved", "0000000000", Checks.values(x));
    Checks.fails("no more variables", IllegalStateException.class, () -> x.addVariable(2));
    Checks.fails("no more constraints", IllegalStateException.class, () -> x.addConstraint(0, 3, 0, 1));
  }
}
