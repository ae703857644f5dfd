/** Objects in the states that the tests of refused calls and of questions begin with. */
final class Samples {
  private Samples() {
  }

  static TabuSolver empty() {
    return new TabuSolver();
  }

  /** Two variables without constraints, and nothing else. */
  static TabuSolver plain() {
    return Checks.solver(2, 8);
  }

  /**
   * Three variables of the sizes 3, 5 and 2, two constraints, settings of its own, a search with a restart, something
   * else that was saved, seven changes, the error position 3 and the input v5.
   */
  static TabuSolver ordinary() {
    TabuSolver x = Checks.solver(3, 4, 2);
    x.addConstraint(2, 7, 6, 2);
    x.addConstraint(0, 7, 0, 3);
    x.save();
    x.setDomain(1, 5);
    x.setWeight(1, 4);
    x.setValue(1, 1);
    Checks.type(x, "v2;x");
    Checks.outcome(x::read);
    x.setNeighborhood(7);
    x.setTenure(5);
    x.setPatience(6);
    x.setSeed(99);
    x.step();
    x.step();
    x.restart();
    x.step();
    x.step();
    x.step();
    Checks.type(x, "v5");
    return x;
  }

  /** Ten variables of size 8, twenty constraints, a log of forty moves, and an input of sixty characters. */
  static TabuSolver full() {
    TabuSolver x = Checks.solver(8, 8, 8, 8, 8, 8, 8, 8, 8, 8);
    for (int c = 0; c < 20; c++) {
      x.addConstraint(c % 6, 1023 >> c % 9, c - 4, c % 9 + 1);
    }
    x.save();
    x.setNeighborhood(4);
    x.run(30);
    x.run(30);
    Checks.type(x, "v2;".repeat(20));
    return x;
  }

  /** All moves are held: both variables have left the value 0, and the cost is the least one. */
  static TabuSolver stuck() {
    TabuSolver x = Checks.solver(2, 2);
    x.addConstraint(2, 3, 2, 1);
    x.setNeighborhood(1);
    x.step();
    x.step();
    return x;
  }
}
