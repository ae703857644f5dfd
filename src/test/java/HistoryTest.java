import java.util.NoSuchElementException;

/** Promises 44 to 46: undo, save and restore. */
public final class HistoryTest {
  public static void main(String[] args) {
    undoOfEachChange();
    undoOfEqualChanges();
    undoBringsValuesBack();
    undoIsLimited();
    undoGoesRound();
    noChanges();
    undoLeavesSettings();
    save();
    savedStays();
    restore();
    restoreLeavesSettings();
    Checks.finish("HistoryTest");
  }

  private static String state(TabuSolver x) {
    StringBuilder text = new StringBuilder();
    for (int v = 0; v < x.count(0); v++) {
      text.append(x.variable(v, 0)).append('/').append(x.variable(v, 1)).append(' ');
    }
    for (int c = 0; c < x.count(1); c++) {
      text.append(Checks.description(x, c));
    }
    return text.toString();
  }

  private static void undoOfEachChange() {
    TabuSolver x = new TabuSolver();
    Checks.fails("nothing to undo", NoSuchElementException.class, x::undo);
    x.addVariable(3);
    x.addVariable(4);
    x.addConstraint(1, 3, 2, 5);
    x.setDomain(1, 2);
    x.setWeight(0, 9);
    x.removeConstraint(0);
    Checks.type(x, "v5;d012:3*4;");
    x.read();
    Checks.due("state", "3/0 2/0 5/0 d012:3*4;", state(x));
    Checks.due("undo of read", 6, x.undo());
    Checks.due("state before read", "3/0 2/0 ", state(x));
    Checks.due("undo of removeConstraint", 5, x.undo());
    Checks.due("state before removeConstraint", "3/0 2/0 b01:2*9;", state(x));
    Checks.due("undo of setWeight", 4, x.undo());
    Checks.due("state before setWeight", "3/0 2/0 b01:2*5;", state(x));
    Checks.due("undo of setDomain", 3, x.undo());
    Checks.due("state before setDomain", "3/0 4/0 b01:2*5;", state(x));
    Checks.due("undo of addConstraint", 2, x.undo());
    Checks.due("state before addConstraint", "3/0 4/0 ", state(x));
    Checks.due("undo of addVariable", 1, x.undo());
    Checks.due("undo of the first one", 0, x.undo());
    Checks.due("state at first", "", state(x));
    Checks.fails("no change is left", NoSuchElementException.class, x::undo);
    Checks.due("a change after undo", 0, x.addVariable(2));
    Checks.due("is undone", 0, x.undo());
  }

  private static void undoOfEqualChanges() {
    TabuSolver x = Checks.solver(3, 3);
    x.addConstraint(0, 3, 0, 5);
    x.setDomain(0, 3);
    x.setWeight(0, 5);
    Checks.due("a weight as it was", 4, x.undo());
    Checks.due("a size as it was", 3, x.undo());
    Checks.due("the constraint", 2, x.undo());
    Checks.due("state", "3/0 3/0 ", state(x));
  }

  private static void undoBringsValuesBack() {
    TabuSolver x = Checks.withValues(Checks.solver(8, 8), 7, 6);
    x.setDomain(0, 4);
    Checks.due("the value is the last one", "4/3 8/6 ", state(x));
    x.setValue(1, 2);
    x.addVariable(5);
    x.setValue(1, 1);
    x.restart();
    x.undo();
    Checks.due("values as just ahead of the change", "4/3 8/2 ", state(x));
    x.step();
    x.undo();
    Checks.due("values ahead of setDomain", "8/7 8/6 ", state(x));
    Checks.due("best values", "76", Checks.bestValues(x));
  }

  private static void undoIsLimited() {
    TabuSolver x = Checks.solver(2, 2, 2, 2, 2, 2, 2, 2, 2, 2);
    for (int left = 7; left >= 0; left--) {
      Checks.due("undo", left, x.undo());
    }
    Checks.fails("the ninth one", NoSuchElementException.class, x::undo);
    Checks.due("two variables are left", 2, x.count(0));
  }

  private static void undoGoesRound() {
    TabuSolver x = Checks.solver(2, 3);
    x.addConstraint(0, 3, 0, 1);
    for (int i = 0; i < 21; i++) {
      x.setWeight(0, i % 9 + 1);
    }
    x.undo();
    x.undo();
    x.undo();
    x.setWeight(0, 9);
    x.setWeight(0, 8);
    StringBuilder weights = new StringBuilder();
    for (int i = 0; i < 7; i++) {
      x.undo();
      weights.append(x.constraint(0, 3));
    }
    // The weights were .. 5 6 7 8 9 1 2 3, then 1 and 2 and 3 were undone, and 9 and 8 followed.
    Checks.due("weights on the way back", "9987654", weights.toString());
    Checks.fails("no further", NoSuchElementException.class, x::undo);
  }

  private static void noChanges() {
    TabuSolver x = Checks.solver(4, 4);
    x.addConstraint(2, 3, 3, 1);
    x.setValue(0, 1);
    x.setSeed(4);
    x.setTenure(4);
    x.setPatience(4);
    x.setNeighborhood(4);
    x.step();
    x.run(5);
    x.descend();
    x.restart();
    x.takeBest();
    x.save();
    x.append('v');
    Checks.fails("a bad text", IllegalArgumentException.class, x::read);
    Checks.fails("a bad weight", IllegalArgumentException.class, () -> x.setWeight(0, 10));
    Checks.fails("a bad size", IllegalArgumentException.class, () -> x.setDomain(0, 10));
    Checks.fails("a bad variable", IllegalArgumentException.class, () -> x.addVariable(10));
    Checks.fails("a bad constraint", IllegalArgumentException.class, () -> x.addConstraint(0, 1, 0, 1));
    Checks.fails("no such constraint", IndexOutOfBoundsException.class, () -> x.removeConstraint(1));
    Checks.due("undo of addConstraint", 2, x.undo());
    Checks.due("state", "4/0 4/0 ", state(x));
  }

  private static void undoLeavesSettings() {
    TabuSolver x = Checks.solver(4, 4);
    x.setSeed(41);
    x.setTenure(4);
    x.setPatience(40);
    x.setNeighborhood(14);
    x.save();
    x.append('v');
    x.undo();
    Checks.due("seed", 41, x.search(3));
    Checks.due("tenure", 4, x.setTenure(5));
    Checks.due("patience", 40, x.setPatience(5));
    Checks.due("neighborhood", 14, x.setNeighborhood(5));
    Checks.due("input", 2, x.append('2'));
    Checks.due("what was saved", 2, x.restore());
  }

  private static void save() {
    TabuSolver x = new TabuSolver();
    Checks.fails("nothing was saved", IllegalStateException.class, x::restore);
    Checks.due("save of nothing", 0, x.save());
    Checks.due("restore of nothing", 0, x.restore());
    x.addVariable(4);
    x.addVariable(5);
    x.setValue(1, 3);
    x.addConstraint(2, 3, 7, 2);
    x.step();
    Checks.due("save", 2, x.save());
    Checks.due("the search goes on", 1, x.search(0));
    Checks.due("save is no change", 2, x.undo());
  }

  private static void savedStays() {
    TabuSolver x = Checks.withValues(Checks.solver(4, 5), 1, 3);
    x.addConstraint(2, 3, 7, 2);
    x.save();
    x.setWeight(0, 9);
    x.setValue(0, 2);
    x.setDomain(1, 2);
    Checks.due("changed", "4/2 2/1 c01:7*9;", state(x));
    Checks.due("restore", 2, x.restore());
    Checks.due("restored", "4/1 5/3 c01:7*2;", state(x));
    x.removeConstraint(0);
    x.addVariable(2);
    Checks.due("restore again", 2, x.restore());
    Checks.due("restored again", "4/1 5/3 c01:7*2;", state(x));
    x.clear();
    x.save();
    Checks.due("what was saved is replaced", 0, x.restore());
  }

  private static void restore() {
    TabuSolver x = Checks.withValues(Checks.solver(4, 5), 1, 3);
    x.addConstraint(2, 3, 7, 2);
    x.save();
    x.step();
    x.setWeight(0, 1);
    x.step();
    x.restore();
    Checks.due("values", "13", Checks.values(x));
    Checks.due("best values", "13", Checks.bestValues(x));
    Checks.due("best cost", 6, x.bestCost());
    Checks.due("iteration", 0, x.search(0));
    Checks.due("nothing is held", 0, x.moves(true));
    Checks.fails("changes are forgotten", NoSuchElementException.class, x::undo);
    x.addVariable(2);
    Checks.due("undo after restore", 0, x.undo());
    Checks.due("state as restored", "4/1 5/3 c01:7*2;", state(x));
  }

  private static void restoreLeavesSettings() {
    TabuSolver x = Checks.solver(4, 4);
    x.save();
    x.setSeed(41);
    x.setTenure(4);
    x.setPatience(40);
    x.setNeighborhood(14);
    x.append('x');
    Checks.fails("a bad text", IllegalArgumentException.class, x::read);
    x.append('v');
    x.restore();
    Checks.due("seed", 41, x.search(3));
    Checks.due("tenure", 4, x.setTenure(5));
    Checks.due("patience", 40, x.setPatience(5));
    Checks.due("neighborhood", 14, x.setNeighborhood(5));
    Checks.due("input", 2, x.append('2'));
    Checks.due("error position", 0, x.errorPosition());
  }
}
