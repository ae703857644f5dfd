import java.util.List;

/** Methods whose documentation does not mention a change leave every state as it is, and answer the same again. */
public final class QuestionTest {
  private static int asked = 0;

  private record State(String name, Portrait.Maker maker, List<String> portrait) {
    State(String name, Portrait.Maker maker) {
      this(name, maker, Portrait.of(maker));
    }

    void ask(String call, Portrait.Use question) {
      asked++;
      TabuSolver x = maker.make();
      Object first = Checks.outcome(() -> question.on(x));
      Checks.due(call + " again in the " + name + " state", first, Checks.outcome(() -> question.on(x)));
      String difference = Portrait.difference(portrait, Portrait.after(maker, question));
      Checks.due(call + " leaves the " + name + " state", "", difference);
    }
  }

  public static void main(String[] args) {
    Checks.sentence("D: Methods whose documentation does not mention a change only answer a question");
    List<State> states = List.of(new State("empty", Samples::empty), new State("plain", Samples::plain),
        new State("ordinary", Samples::ordinary), new State("full", Samples::full), new State("stuck", Samples::stuck));
    for (State state : states) {
      aboutTheProblem(state);
      aboutCosts(state);
      aboutMoves(state);
      aboutTheSearch(state);
      aboutAllCombinations(state);
    }
    Checks.due("questions asked", 5 * 41, asked);
    Checks.finish("QuestionTest");
  }

  private static void aboutTheProblem(State state) {
    for (int what = 0; what < 4; what++) {
      int part = what;
      state.ask("count(" + what + ")", x -> x.count(part));
      state.ask("constraint(1, " + what + ")", x -> x.constraint(1, part));
    }
    for (int what = 0; what < 5; what++) {
      int part = what;
      state.ask("variable(1, " + what + ")", x -> x.variable(1, part));
    }
    state.ask("describe(0, -1)", x -> x.describe(0, -1));
    state.ask("describe(1, 2)", x -> x.describe(1, 2));
    state.ask("errorPosition()", TabuSolver::errorPosition);
  }

  private static void aboutCosts(State state) {
    state.ask("cost()", TabuSolver::cost);
    state.ask("bestCost()", TabuSolver::bestCost);
    state.ask("violation(0, false)", x -> x.violation(0, false));
    state.ask("violation(0, true)", x -> x.violation(0, true));
    state.ask("mostBlamed()", TabuSolver::mostBlamed);
    state.ask("relief(1)", x -> x.relief(1));
  }

  private static void aboutMoves(State state) {
    state.ask("moves(false)", x -> x.moves(false));
    state.ask("moves(true)", x -> x.moves(true));
    state.ask("move(1, 2)", x -> x.move(1, 2));
    state.ask("move(1, 4)", x -> x.move(1, 4));
    state.ask("move(1, 5)", x -> x.move(1, 5));
    state.ask("nextMove()", TabuSolver::nextMove);
    state.ask("isForbidden(0, 1)", x -> x.isForbidden(0, 1));
    state.ask("isLocalOptimum()", TabuSolver::isLocalOptimum);
  }

  private static void aboutTheSearch(State state) {
    state.ask("search(0)", x -> x.search(0));
    state.ask("search(3)", x -> x.search(3));
    state.ask("logSize()", TabuSolver::logSize);
    state.ask("log(0, 4)", x -> x.log(0, 4));
    state.ask("log(4, 5)", x -> x.log(4, 5));
    state.ask("improvingShare()", TabuSolver::improvingShare);
  }

  private static void aboutAllCombinations(State state) {
    state.ask("optimum()", TabuSolver::optimum);
    state.ask("optima()", TabuSolver::optima);
    state.ask("optimalValue(1)", x -> x.optimalValue(1));
    state.ask("worst()", TabuSolver::worst);
    state.ask("unavoidable()", TabuSolver::unavoidable);
  }
}
