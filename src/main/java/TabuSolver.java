import java.util.Arrays;
import java.util.NoSuchElementException;

/** A local search solver with tabu steps. The face checks arguments and throws; the classes inside never throw. */
public final class TabuSolver {
  private static final int NONE = -1;

  private static final int MOST_VARIABLES = 10;
  private static final int LEAST_SIZE = 2;
  private static final int GREATEST_SIZE = 8;

  private static final int MOST_CONSTRAINTS = 20;
  private static final int LEAST_MEMBERS = 2;
  private static final int GREATEST_NUMBER = 50;
  private static final int GREATEST_WEIGHT = 9;

  private static final int DIFFERENT = 0;
  private static final int AT_MOST = 1;
  private static final int EQUAL = 2;
  private static final int ASCENDING = 3;
  private static final int COUNT = 4;
  private static final int APART = 5;

  private static final int SET = 0;
  private static final int SWAP = 1;
  private static final int SHIFT = 2;
  private static final int ROTATE = 3;
  private static final int ALL_KINDS = 15;
  // 70 sets, 45 swaps, 20 shifts and 240 rotations are possible with ten variables of size 8.
  private static final int MOST_MOVES = 375;
  // Each move of a descent lowers a cost that is far below this bound.
  private static final int MOST_DESCENTS = 1000000;

  private static final int FIRST_TENURE = 3;
  private static final int GREATEST_TENURE = 20;
  private static final int FIRST_PATIENCE = 20;
  private static final int GREATEST_PATIENCE = 100;
  private static final int FIRST_SEED = 1;
  // Its bits are the lowest 31, so it also cuts the next seed to size.
  private static final int GREATEST_SEED = 2147483647;
  private static final int SEED_FACTOR = 1103515245;
  private static final int SEED_TERM = 12345;
  private static final int SEED_SHIFT = 16;
  private static final int MOST_STEPS = 30;

  private static final int MOST_LOGGED = 40;
  private static final int MOST_REMEMBERED = 8;
  private static final int MOST_COMBINATIONS = 5000;
  // 20 constraints of weight 9 with violations of at most 120: the sum of ten values 7, and 50.
  private static final int ABOVE_ALL_COSTS = 1000000;

  private static final int MOST_INPUT = 60;
  private static final int FIRST_CODE = 32;
  private static final int LAST_CODE = 126;
  // The shortest entry, with its semicolon, has three characters.
  private static final int MOST_ENTRIES = MOST_INPUT / 3;
  // A letter, ten members, a colon, a sign, two digits, an asterisk, a weight and a semicolon.
  private static final int LONGEST_DESCRIPTION = 18;

  private final Problem problem;
  private final Problem saved;
  private final History history;
  private final Settings settings;
  private final Walk walk;
  private final Survey survey;
  private final Input input;
  private final Description description;
  private boolean isSaved;
  private int keptError;

  public TabuSolver() {
    problem = new Problem();
    saved = new Problem();
    history = new History();
    settings = new Settings();
    walk = new Walk();
    survey = new Survey();
    input = new Input();
    description = new Description();
    isSaved = false;
    keptError = NONE;
  }

  public int clear() {
    int before = problem.variables;
    problem.removeAll();
    history.forget();
    settings.reset();
    beginSearch();
    return before;
  }

  public int addVariable(int size) throws IllegalArgumentException, IllegalStateException {
    checkSize(size);
    if (problem.variables >= MOST_VARIABLES) {
      throw new IllegalStateException();
    }
    history.remember(problem);
    problem.putVariable(size);
    beginSearch();
    return problem.variables - 1;
  }

  public int setDomain(int variable, int size) throws IndexOutOfBoundsException, IllegalArgumentException {
    checkVariable(variable);
    checkSize(size);
    history.remember(problem);
    int before = problem.sizes[variable];
    problem.sizes[variable] = size;
    problem.values[variable] = Math.min(problem.values[variable], size - 1);
    beginSearch();
    return before;
  }

  public int addConstraint(int kind, int members, int number, int weight)
      throws IllegalArgumentException, IllegalStateException {
    checkRange(kind, DIFFERENT, APART);
    checkRange(number, -GREATEST_NUMBER, GREATEST_NUMBER);
    checkRange(weight, 1, GREATEST_WEIGHT);
    if (Integer.bitCount(members) < LEAST_MEMBERS || !areMembers(members, problem.variables)) {
      throw new IllegalArgumentException();
    }
    if (problem.constraints >= MOST_CONSTRAINTS) {
      throw new IllegalStateException();
    }
    history.remember(problem);
    problem.putConstraint(kind, members, number, weight);
    beginSearch();
    return problem.constraints - 1;
  }

  public int removeConstraint(int constraint) throws IndexOutOfBoundsException {
    checkConstraint(constraint);
    history.remember(problem);
    problem.dropConstraint(constraint);
    beginSearch();
    return problem.constraints;
  }

  public int setWeight(int constraint, int weight) throws IndexOutOfBoundsException, IllegalArgumentException {
    checkConstraint(constraint);
    checkRange(weight, 1, GREATEST_WEIGHT);
    history.remember(problem);
    int before = problem.weights[constraint];
    problem.weights[constraint] = weight;
    beginSearch();
    return before;
  }

  public int setValue(int variable, int value) throws IndexOutOfBoundsException, IllegalArgumentException {
    checkVariable(variable);
    checkRange(value, 0, problem.sizes[variable] - 1);
    int before = problem.values[variable];
    problem.values[variable] = value;
    beginSearch();
    return before;
  }

  public int count(int what) throws IllegalArgumentException {
    switch (what) {
      case 0:
        return problem.variables;
      case 1:
        return problem.constraints;
      case 2:
        return problem.violatedConstraints();
      case 3:
        return problem.combinations();
      default:
        throw new IllegalArgumentException();
    }
  }

  public int constraint(int constraint, int what) throws IndexOutOfBoundsException, IllegalArgumentException {
    checkConstraint(constraint);
    switch (what) {
      case 0:
        return problem.kinds[constraint];
      case 1:
        return problem.members[constraint];
      case 2:
        return problem.numbers[constraint];
      case 3:
        return problem.weights[constraint];
      default:
        throw new IllegalArgumentException();
    }
  }

  public int variable(int variable, int what) throws IndexOutOfBoundsException, IllegalArgumentException {
    checkVariable(variable);
    switch (what) {
      case 0:
        return problem.sizes[variable];
      case 1:
        return problem.values[variable];
      case 2:
        return walk.best[variable];
      case 3:
        return problem.conflictOf(variable);
      case 4:
        return problem.membershipsOf(variable);
      default:
        throw new IllegalArgumentException();
    }
  }

  public int cost() {
    return problem.presentCost();
  }

  public int bestCost() {
    return walk.lowestCost;
  }

  public int violation(int constraint, boolean isBest) throws IndexOutOfBoundsException {
    checkConstraint(constraint);
    return problem.violationIn(constraint, isBest ? walk.best : problem.values);
  }

  public int mostBlamed() throws NoSuchElementException {
    int blamed = NONE;
    int greatest = 0;
    for (int v = 0; v < problem.variables; v++) {
      int conflict = problem.conflictOf(v);
      if (conflict > greatest) {
        blamed = v;
        greatest = conflict;
      }
    }
    if (blamed == NONE) {
      throw new NoSuchElementException();
    }
    return blamed;
  }

  public int relief(int variable) throws IndexOutOfBoundsException {
    checkVariable(variable);
    return walk.reliefOf(problem, variable);
  }

  public int takeBest() {
    int before = problem.presentCost();
    problem.takeValues(walk.best);
    return before - problem.presentCost();
  }

  public int setNeighborhood(int kinds) throws IllegalArgumentException {
    checkRange(kinds, 0, ALL_KINDS);
    int before = settings.kinds;
    settings.kinds = kinds;
    return before;
  }

  public int setTenure(int tenure) throws IllegalArgumentException {
    checkRange(tenure, 0, GREATEST_TENURE);
    int before = settings.tenure;
    settings.tenure = tenure;
    return before;
  }

  public int setPatience(int patience) throws IllegalArgumentException {
    checkRange(patience, 1, GREATEST_PATIENCE);
    int before = settings.patience;
    settings.patience = patience;
    return before;
  }

  public int setSeed(int seed) throws IllegalArgumentException {
    checkRange(seed, 0, GREATEST_SEED);
    int before = settings.seed;
    settings.seed = seed;
    return before;
  }

  public int moves(boolean isHeld) {
    walk.list.fill(problem, settings.kinds);
    return isHeld ? walk.heldMoves(problem) : walk.list.size;
  }

  public int move(int index, int what) throws IndexOutOfBoundsException, IllegalArgumentException {
    walk.list.fill(problem, settings.kinds);
    if (index < 0 || index >= walk.list.size) {
      throw new IndexOutOfBoundsException();
    }
    switch (what) {
      case 0:
      case 1:
      case 2:
      case 3:
        return walk.list.parts[what][index];
      case 4:
        return walk.costAfter(problem, index);
      case 5:
        return walk.isTrialHeld(problem, walk.costAfter(problem, index)) ? 1 : 0;
      default:
        throw new IllegalArgumentException();
    }
  }

  public int nextMove() throws NoSuchElementException {
    int index = walk.cheapest(problem, settings.kinds, false);
    if (index == NONE) {
      throw new NoSuchElementException();
    }
    return index;
  }

  public boolean isForbidden(int variable, int value) throws IndexOutOfBoundsException, IllegalArgumentException {
    checkVariable(variable);
    checkRange(value, 0, problem.sizes[variable] - 1);
    return walk.isBanned(variable, value);
  }

  public boolean isLocalOptimum() {
    return walk.downhill(problem, settings.kinds) == NONE;
  }

  public int step() throws NoSuchElementException {
    if (!walk.tryStep(problem, settings)) {
      throw new NoSuchElementException();
    }
    return problem.presentCost();
  }

  public int run(int steps) throws IllegalArgumentException {
    checkRange(steps, 1, MOST_STEPS);
    for (int made = 0; made < steps; made++) {
      if (problem.presentCost() == 0 || !walk.tryStep(problem, settings)) {
        return made;
      }
    }
    return steps;
  }

  public int descend() {
    for (int made = 0; made < MOST_DESCENTS; made++) {
      int index = walk.downhill(problem, settings.kinds);
      if (index == NONE) {
        return made;
      }
      walk.goDown(problem, index);
    }
    return MOST_DESCENTS;
  }

  public int restart() {
    walk.startAnew(problem, settings);
    return problem.presentCost();
  }

  public int search(int what) throws IllegalArgumentException {
    switch (what) {
      case 0:
        return walk.iteration;
      case 1:
        return walk.idleSteps;
      case 2:
        return walk.restarts;
      case 3:
        return settings.seed;
      case 4:
        return walk.lowestAt;
      default:
        throw new IllegalArgumentException();
    }
  }

  public int logSize() {
    return walk.steps.size;
  }

  public int log(int index, int what) throws IndexOutOfBoundsException, IllegalArgumentException {
    if (index < 0 || index >= walk.steps.size) {
      throw new IndexOutOfBoundsException();
    }
    checkRange(what, 0, StepLog.ITERATION);
    return walk.steps.partAt(index, what);
  }

  public double improvingShare() throws ArithmeticException {
    int size = walk.steps.size;
    if (size == 0) {
      throw new ArithmeticException();
    }
    return (double) walk.steps.improvements() / (double) size;
  }

  public int optimum() throws IllegalStateException {
    exploreAll();
    return survey.lowest;
  }

  public int optima() throws IllegalStateException {
    exploreAll();
    return survey.ways;
  }

  public int optimalValue(int variable) throws IndexOutOfBoundsException, IllegalStateException {
    checkVariable(variable);
    exploreAll();
    return survey.first[variable];
  }

  public int worst() throws IllegalStateException {
    exploreAll();
    return survey.highest;
  }

  public int unavoidable() throws IllegalStateException {
    exploreAll();
    return Integer.bitCount(survey.alwaysViolated);
  }

  public int append(char character) throws IllegalArgumentException, IllegalStateException {
    checkRange(character, FIRST_CODE, LAST_CODE);
    if (input.length >= MOST_INPUT) {
      throw new IllegalStateException();
    }
    input.put(character);
    return input.length;
  }

  public int read() throws IllegalArgumentException, IllegalStateException {
    boolean isText = input.parse();
    input.length = 0;
    if (!isText) {
      keptError = input.position;
      throw new IllegalArgumentException();
    }
    if (!input.fits(problem)) {
      throw new IllegalStateException();
    }
    history.remember(problem);
    input.addTo(problem);
    beginSearch();
    return input.entries;
  }

  public int errorPosition() throws NoSuchElementException {
    if (keptError == NONE) {
      throw new NoSuchElementException();
    }
    return keptError;
  }

  public int describe(int constraint, int index) throws IndexOutOfBoundsException, NoSuchElementException {
    checkConstraint(constraint);
    description.write(problem, constraint);
    if (index == -1) {
      return description.length;
    }
    if (index < 0 || index >= description.length) {
      throw new NoSuchElementException();
    }
    return description.signs[index];
  }

  public int undo() throws NoSuchElementException {
    if (history.size == 0) {
      throw new NoSuchElementException();
    }
    history.bringBack(problem);
    beginSearch();
    return history.size;
  }

  public int save() {
    saved.copyFrom(problem);
    isSaved = true;
    return saved.variables;
  }

  public int restore() throws IllegalStateException {
    if (!isSaved) {
      throw new IllegalStateException();
    }
    problem.copyFrom(saved);
    history.forget();
    beginSearch();
    return problem.variables;
  }

  private void beginSearch() {
    walk.begin(problem);
    survey.isKnown = false;
  }

  private void exploreAll() {
    if (problem.combinations() > MOST_COMBINATIONS) {
      throw new IllegalStateException();
    }
    if (!survey.isKnown) {
      survey.explore(problem);
    }
  }

  private void checkVariable(int variable) {
    if (variable < 0 || variable >= problem.variables) {
      throw new IndexOutOfBoundsException();
    }
  }

  private void checkConstraint(int constraint) {
    if (constraint < 0 || constraint >= problem.constraints) {
      throw new IndexOutOfBoundsException();
    }
  }

  private static void checkSize(int size) {
    checkRange(size, LEAST_SIZE, GREATEST_SIZE);
  }

  private static void checkRange(int number, int least, int greatest) {
    if (number < least || number > greatest) {
      throw new IllegalArgumentException();
    }
  }

  private static boolean areMembers(int members, int variables) {
    return members >>> variables == 0;
  }

  /** The neighborhood, the tenure, the patience and the seed: what outlives the beginning of a search. */
  private static final class Settings {
    int kinds = ALL_KINDS;
    int tenure = FIRST_TENURE;
    int patience = FIRST_PATIENCE;
    int seed = FIRST_SEED;

    void reset() {
      kinds = ALL_KINDS;
      tenure = FIRST_TENURE;
      patience = FIRST_PATIENCE;
      seed = FIRST_SEED;
    }

    int nextSeed() {
      seed = seed * SEED_FACTOR + SEED_TERM & GREATEST_SEED;
      return seed;
    }
  }

  /** Variables with their domains and values, and constraints: what is saved and remembered. */
  private static final class Problem {
    final int[] sizes = new int[MOST_VARIABLES];
    final int[] values = new int[MOST_VARIABLES];
    final int[] kinds = new int[MOST_CONSTRAINTS];
    final int[] members = new int[MOST_CONSTRAINTS];
    final int[] numbers = new int[MOST_CONSTRAINTS];
    final int[] weights = new int[MOST_CONSTRAINTS];
    final int[] taken = new int[MOST_VARIABLES];
    int variables = 0;
    int constraints = 0;

    void removeAll() {
      variables = 0;
      constraints = 0;
    }

    void copyFrom(Problem other) {
      variables = other.variables;
      constraints = other.constraints;
      System.arraycopy(other.sizes, 0, sizes, 0, MOST_VARIABLES);
      System.arraycopy(other.values, 0, values, 0, MOST_VARIABLES);
      System.arraycopy(other.kinds, 0, kinds, 0, MOST_CONSTRAINTS);
      System.arraycopy(other.members, 0, members, 0, MOST_CONSTRAINTS);
      System.arraycopy(other.numbers, 0, numbers, 0, MOST_CONSTRAINTS);
      System.arraycopy(other.weights, 0, weights, 0, MOST_CONSTRAINTS);
    }

    void takeValues(int[] row) {
      System.arraycopy(row, 0, values, 0, MOST_VARIABLES);
    }

    void putVariable(int size) {
      sizes[variables] = size;
      values[variables] = 0;
      variables++;
    }

    void putConstraint(int kind, int set, int number, int weight) {
      kinds[constraints] = kind;
      members[constraints] = set;
      numbers[constraints] = number;
      weights[constraints] = weight;
      constraints++;
    }

    void dropConstraint(int constraint) {
      int later = constraints - constraint - 1;
      System.arraycopy(kinds, constraint + 1, kinds, constraint, later);
      System.arraycopy(members, constraint + 1, members, constraint, later);
      System.arraycopy(numbers, constraint + 1, numbers, constraint, later);
      System.arraycopy(weights, constraint + 1, weights, constraint, later);
      constraints--;
    }

    int combinations() {
      int product = 1;
      for (int v = 0; v < variables; v++) {
        product *= sizes[v];
      }
      return product;
    }

    int presentCost() {
      return costIn(values);
    }

    int costIn(int[] row) {
      int total = 0;
      for (int c = 0; c < constraints; c++) {
        total += weights[c] * violationIn(c, row);
      }
      return total;
    }

    int conflictOf(int variable) {
      int total = 0;
      for (int c = 0; c < constraints; c++) {
        if (isMember(variable, c)) {
          total += weights[c] * violationIn(c, values);
        }
      }
      return total;
    }

    int membershipsOf(int variable) {
      int total = 0;
      for (int c = 0; c < constraints; c++) {
        if (isMember(variable, c)) {
          total++;
        }
      }
      return total;
    }

    int violatedConstraints() {
      int total = 0;
      for (int c = 0; c < constraints; c++) {
        if (violationIn(c, values) > 0) {
          total++;
        }
      }
      return total;
    }

    boolean isMember(int variable, int constraint) {
      return (members[constraint] >> variable & 1) != 0;
    }

    int violationIn(int constraint, int[] row) {
      int size = gather(constraint, row);
      int number = numbers[constraint];
      switch (kinds[constraint]) {
        case DIFFERENT:
          return closePairs(size, 1);
        case AT_MOST:
          return Math.max(0, sum(size) - number);
        case EQUAL:
          return Math.abs(sum(size) - number);
        case ASCENDING:
          return descents(size, number);
        case COUNT:
          return Math.abs(zeros(size) - number);
        case APART:
          return closePairs(size, number);
        default:
          return 0;
      }
    }

    /** Puts the values of the members into the row taken, in ascending order of the members, and counts them. */
    private int gather(int constraint, int[] row) {
      int set = members[constraint];
      int size = 0;
      for (int v = 0; v < variables; v++) {
        if ((set >> v & 1) != 0) {
          taken[size] = row[v];
          size++;
        }
      }
      return size;
    }

    private int sum(int size) {
      int total = 0;
      for (int i = 0; i < size; i++) {
        total += taken[i];
      }
      return total;
    }

    private int zeros(int size) {
      int total = 0;
      for (int i = 0; i < size; i++) {
        if (taken[i] == 0) {
          total++;
        }
      }
      return total;
    }

    private int descents(int size, int number) {
      int total = 0;
      for (int i = 1; i < size; i++) {
        if (taken[i] < number + taken[i - 1]) {
          total++;
        }
      }
      return total;
    }

    private int closePairs(int size, int distance) {
      int total = 0;
      for (int i = 1; i < size; i++) {
        for (int j = 0; j < i; j++) {
          if (Math.abs(taken[i] - taken[j]) < distance) {
            total++;
          }
        }
      }
      return total;
    }
  }

  /** The problems as they were before the last changes; the oldest one gives way. */
  private static final class History {
    final Problem[] problems = new Problem[MOST_REMEMBERED];
    int oldest = 0;
    int size = 0;

    History() {
      for (int i = 0; i < MOST_REMEMBERED; i++) {
        problems[i] = new Problem();
      }
    }

    void forget() {
      size = 0;
    }

    void remember(Problem problem) {
      problems[(oldest + size) % MOST_REMEMBERED].copyFrom(problem);
      if (size < MOST_REMEMBERED) {
        size++;
      } else {
        oldest = (oldest + 1) % MOST_REMEMBERED;
      }
    }

    void bringBack(Problem problem) {
      size--;
      problem.copyFrom(problems[(oldest + size) % MOST_REMEMBERED]);
    }
  }

  /** The possible moves in their order. */
  private static final class MoveList {
    // The rows hold the kinds and the numbers a, b and c of all moves.
    final int[][] parts = new int[4][MOST_MOVES];
    int size = 0;

    void fill(Problem problem, int kinds) {
      size = 0;
      if ((kinds >> SET & 1) != 0) {
        putSets(problem);
      }
      if ((kinds >> SWAP & 1) != 0) {
        putSwaps(problem);
      }
      if ((kinds >> SHIFT & 1) != 0) {
        putShifts(problem);
      }
      if ((kinds >> ROTATE & 1) != 0) {
        putRotations(problem);
      }
    }

    private void put(int kind, int a, int b, int c) {
      if (size < MOST_MOVES) {
        parts[0][size] = kind;
        parts[1][size] = a;
        parts[2][size] = b;
        parts[3][size] = c;
        size++;
      }
    }

    private void putSets(Problem problem) {
      for (int a = 0; a < problem.variables; a++) {
        for (int b = 0; b < problem.sizes[a]; b++) {
          if (b != problem.values[a]) {
            put(SET, a, b, NONE);
          }
        }
      }
    }

    private void putSwaps(Problem problem) {
      for (int a = 0; a < problem.variables; a++) {
        for (int b = a + 1; b < problem.variables; b++) {
          if (problem.values[a] != problem.values[b] && fits(problem, a, b) && fits(problem, b, a)) {
            put(SWAP, a, b, NONE);
          }
        }
      }
    }

    private void putShifts(Problem problem) {
      for (int a = 0; a < problem.variables; a++) {
        put(SHIFT, a, 0, NONE);
        put(SHIFT, a, 1, NONE);
      }
    }

    private void putRotations(Problem problem) {
      for (int a = 0; a < problem.variables; a++) {
        for (int b = a + 1; b < problem.variables; b++) {
          for (int c = a + 1; c < problem.variables; c++) {
            if (b != c && isRotation(problem, a, b, c)) {
              put(ROTATE, a, b, c);
            }
          }
        }
      }
    }

    private static boolean isRotation(Problem problem, int a, int b, int c) {
      boolean areEqual = problem.values[a] == problem.values[b] && problem.values[b] == problem.values[c];
      return !areEqual && fits(problem, a, b) && fits(problem, b, c) && fits(problem, c, a);
    }

    /** Tells whether the value of one variable is in the domain of another one. */
    private static boolean fits(Problem problem, int from, int to) {
      return problem.values[from] < problem.sizes[to];
    }

    /** Puts the values after a move into a row and leaves the problem as it is. */
    void tryOut(Problem problem, int index, int[] row) {
      int a = parts[1][index];
      int b = parts[2][index];
      int c = parts[3][index];
      System.arraycopy(problem.values, 0, row, 0, MOST_VARIABLES);
      switch (parts[0][index]) {
        case SET:
          row[a] = b;
          break;
        case SWAP:
          row[a] = problem.values[b];
          row[b] = problem.values[a];
          break;
        case SHIFT:
          row[a] = shifted(problem.values[a], problem.sizes[a], b == 1);
          break;
        case ROTATE:
          row[b] = problem.values[a];
          row[c] = problem.values[b];
          row[a] = problem.values[c];
          break;
        default:
          break;
      }
    }

    private static int shifted(int value, int size, boolean isUp) {
      if (isUp) {
        return value == size - 1 ? 0 : value + 1;
      }
      return value == 0 ? size - 1 : value - 1;
    }
  }

  /** The last moves that steps made; the oldest one gives way. */
  private static final class StepLog {
    static final int COST = 4;
    static final int ITERATION = 5;
    static final int IS_IMPROVING = 6;

    // The rows hold the four parts of the moves, then what the constants above name.
    final int[][] parts = new int[IS_IMPROVING + 1][MOST_LOGGED];
    int oldest = 0;
    int size = 0;

    void forget() {
      size = 0;
    }

    void put(MoveList list, int index, int before, int after, int iteration) {
      int slot = (oldest + size) % MOST_LOGGED;
      for (int what = 0; what < COST; what++) {
        parts[what][slot] = list.parts[what][index];
      }
      parts[COST][slot] = after;
      parts[ITERATION][slot] = iteration;
      parts[IS_IMPROVING][slot] = after < before ? 1 : 0;
      if (size < MOST_LOGGED) {
        size++;
      } else {
        oldest = (oldest + 1) % MOST_LOGGED;
      }
    }

    int partAt(int index, int what) {
      return parts[what][(oldest + index) % MOST_LOGGED];
    }

    int improvements() {
      int total = 0;
      for (int i = 0; i < size; i++) {
        total += partAt(i, IS_IMPROVING);
      }
      return total;
    }
  }

  /** The search: its best values, its forbidden values, its steps, and the moves that are possible now. */
  private static final class Walk {
    final int[] best = new int[MOST_VARIABLES];
    final int[] trial = new int[MOST_VARIABLES];
    // A value is forbidden as long as the iteration number is less than this.
    final int[][] freeFrom = new int[MOST_VARIABLES][GREATEST_SIZE];
    final MoveList list = new MoveList();
    final StepLog steps = new StepLog();
    int lowestCost = 0;
    int lowestAt = 0;
    int iteration = 0;
    int idleSteps = 0;
    int restarts = 0;

    void begin(Problem problem) {
      iteration = 0;
      idleSteps = 0;
      restarts = 0;
      steps.forget();
      freeAll();
      keepBest(problem, problem.presentCost());
    }

    private void keepBest(Problem problem, int cost) {
      System.arraycopy(problem.values, 0, best, 0, MOST_VARIABLES);
      lowestCost = cost;
      lowestAt = iteration;
    }

    private boolean keepIfBest(Problem problem, int cost) {
      boolean isBest = cost < lowestCost;
      if (isBest) {
        keepBest(problem, cost);
      }
      return isBest;
    }

    private void freeAll() {
      for (int v = 0; v < MOST_VARIABLES; v++) {
        Arrays.fill(freeFrom[v], 0);
      }
    }

    boolean isBanned(int variable, int value) {
      return iteration < freeFrom[variable][value];
    }

    /** Leaves the values after the move in the row trial. */
    int costAfter(Problem problem, int index) {
      list.tryOut(problem, index, trial);
      return problem.costIn(trial);
    }

    boolean isTrialHeld(Problem problem, int cost) {
      if (cost < lowestCost) {
        return false;
      }
      for (int v = 0; v < problem.variables; v++) {
        if (trial[v] != problem.values[v] && isBanned(v, trial[v])) {
          return true;
        }
      }
      return false;
    }

    int heldMoves(Problem problem) {
      int total = 0;
      for (int i = 0; i < list.size; i++) {
        if (isTrialHeld(problem, costAfter(problem, i))) {
          total++;
        }
      }
      return total;
    }

    /** The first one of the possible moves with the least cost, or NONE; held ones count only if that is wanted. */
    int cheapest(Problem problem, int kinds, boolean withHeld) {
      list.fill(problem, kinds);
      int chosen = NONE;
      int least = 0;
      for (int i = 0; i < list.size; i++) {
        int cost = costAfter(problem, i);
        boolean isCheaper = chosen == NONE || cost < least;
        if (isCheaper && (withHeld || !isTrialHeld(problem, cost))) {
          chosen = i;
          least = cost;
        }
      }
      return chosen;
    }

    /** The move that a descent would make, or NONE. */
    int downhill(Problem problem, int kinds) {
      int index = cheapest(problem, kinds, true);
      if (index == NONE || costAfter(problem, index) >= problem.presentCost()) {
        return NONE;
      }
      return index;
    }

    void goDown(Problem problem, int index) {
      int cost = costAfter(problem, index);
      problem.takeValues(trial);
      keepIfBest(problem, cost);
    }

    boolean tryStep(Problem problem, Settings settings) {
      int index = cheapest(problem, settings.kinds, false);
      if (index == NONE) {
        return false;
      }
      int before = problem.presentCost();
      int after = costAfter(problem, index);
      iteration++;
      banLeftValues(problem, settings.tenure);
      problem.takeValues(trial);
      steps.put(list, index, before, after, iteration);
      idleSteps = keepIfBest(problem, after) ? 0 : idleSteps + 1;
      if (idleSteps >= settings.patience) {
        startAnew(problem, settings);
      }
      return true;
    }

    private void banLeftValues(Problem problem, int tenure) {
      for (int v = 0; v < problem.variables; v++) {
        int left = problem.values[v];
        if (trial[v] != left) {
          // The tenure may have been greater when the value was forbidden before.
          freeFrom[v][left] = Math.max(freeFrom[v][left], iteration + tenure + 1);
        }
      }
    }

    void startAnew(Problem problem, Settings settings) {
      for (int v = 0; v < problem.variables; v++) {
        int drawn = settings.nextSeed() >> SEED_SHIFT;
        int size = problem.sizes[v];
        problem.values[v] = size > 0 ? drawn % size : 0;
      }
      freeAll();
      idleSteps = 0;
      restarts++;
      keepIfBest(problem, problem.costIn(problem.values));
    }

    int reliefOf(Problem problem, int variable) {
      System.arraycopy(problem.values, 0, trial, 0, MOST_VARIABLES);
      int least = ABOVE_ALL_COSTS;
      for (int value = 0; value < problem.sizes[variable]; value++) {
        if (value != problem.values[variable]) {
          trial[variable] = value;
          least = Math.min(least, problem.costIn(trial));
        }
      }
      return problem.presentCost() - least;
    }
  }

  /** What holds of all combinations of values; kept until the problem changes, since the present values do not matter. */
  private static final class Survey {
    final int[] row = new int[MOST_VARIABLES];
    final int[] first = new int[MOST_VARIABLES];
    boolean isKnown = false;
    int lowest = 0;
    int ways = 0;
    int highest = 0;
    int alwaysViolated = 0;

    void explore(Problem problem) {
      Arrays.fill(row, 0);
      lowest = ABOVE_ALL_COSTS;
      highest = 0;
      int all = problem.combinations();
      for (int i = 0; i < all; i++) {
        weigh(problem);
        advance(problem);
      }
      isKnown = true;
    }

    private void weigh(Problem problem) {
      int cost = 0;
      int violated = 0;
      for (int c = 0; c < problem.constraints; c++) {
        int violation = problem.violationIn(c, row);
        cost += problem.weights[c] * violation;
        if (violation > 0) {
          violated |= 1 << c;
        }
      }
      highest = Math.max(highest, cost);
      if (cost < lowest) {
        lowest = cost;
        ways = 1;
        alwaysViolated = violated;
        System.arraycopy(row, 0, first, 0, MOST_VARIABLES);
      } else if (cost == lowest) {
        ways++;
        alwaysViolated &= violated;
      }
    }

    private void advance(Problem problem) {
      for (int v = problem.variables - 1; v >= 0; v--) {
        row[v]++;
        if (row[v] < problem.sizes[v]) {
          return;
        }
        row[v] = 0;
      }
    }
  }

  /** The input and the entries that were found in it. */
  private static final class Input {
    final char[] signs = new char[MOST_INPUT];
    int length = 0;
    // Every prefix that has been taken can be continued to a text, so this is the error position if parse fails.
    int position = 0;
    // An entry with the kind NONE is a variable, and its number is the domain size.
    final int[] kinds = new int[MOST_ENTRIES];
    final int[] members = new int[MOST_ENTRIES];
    final int[] numbers = new int[MOST_ENTRIES];
    final int[] weights = new int[MOST_ENTRIES];
    int entries = 0;

    void put(char sign) {
      signs[length] = sign;
      length++;
    }

    boolean parse() {
      position = 0;
      entries = 0;
      while (entries < MOST_ENTRIES) {
        if (!parseEntry() || take(';', ';') == NONE) {
          return false;
        }
        entries++;
        if (position == length) {
          return true;
        }
      }
      return false;
    }

    /** Takes the next character if it is in the range; otherwise the position stays. */
    private int take(int least, int greatest) {
      if (position >= length || signs[position] < least || signs[position] > greatest) {
        return NONE;
      }
      position++;
      return signs[position - 1];
    }

    private boolean parseEntry() {
      if (take('v', 'v') != NONE) {
        return parseSize();
      }
      return parseKind() && parseMembers() && parseNumber() && parseWeight();
    }

    private boolean parseSize() {
      int digit = take('0' + LEAST_SIZE, '0' + GREATEST_SIZE);
      kinds[entries] = NONE;
      numbers[entries] = digit - '0';
      return digit != NONE;
    }

    private boolean parseKind() {
      int letter = take('a' + DIFFERENT, 'a' + APART);
      kinds[entries] = letter - 'a';
      return letter != NONE;
    }

    private boolean parseMembers() {
      // A second member must follow, so 9 can't be the first one.
      int first = take('0', '8');
      if (first == NONE) {
        return false;
      }
      int second = take(first + 1, '9');
      if (second == NONE) {
        return false;
      }
      int set = 1 << first - '0' | 1 << second - '0';
      for (int digit = second + 1; digit <= '9'; digit++) {
        if (take(digit, digit) != NONE) {
          set |= 1 << digit - '0';
        }
      }
      members[entries] = set;
      return take(':', ':') != NONE;
    }

    private boolean parseNumber() {
      boolean isNegative = take('-', '-') != NONE;
      int first = take('0', '9');
      if (first == NONE) {
        return false;
      }
      int number = first - '0';
      int second = take('0', '0' + Math.min(9, GREATEST_NUMBER - 10 * number));
      if (second != NONE) {
        number = 10 * number + second - '0';
      }
      numbers[entries] = isNegative ? -number : number;
      return take('*', '*') != NONE;
    }

    private boolean parseWeight() {
      int digit = take('1', '0' + GREATEST_WEIGHT);
      weights[entries] = digit - '0';
      return digit != NONE;
    }

    boolean fits(Problem problem) {
      int variables = problem.variables;
      int constraints = problem.constraints;
      for (int i = 0; i < entries; i++) {
        if (kinds[i] == NONE) {
          variables++;
        } else if (areMembers(members[i], variables)) {
          constraints++;
        } else {
          return false;
        }
      }
      return variables <= MOST_VARIABLES && constraints <= MOST_CONSTRAINTS;
    }

    void addTo(Problem problem) {
      for (int i = 0; i < entries; i++) {
        if (kinds[i] == NONE) {
          problem.putVariable(numbers[i]);
        } else {
          problem.putConstraint(kinds[i], members[i], numbers[i], weights[i]);
        }
      }
    }
  }

  /** The text of one constraint. */
  private static final class Description {
    final char[] signs = new char[LONGEST_DESCRIPTION];
    int length = 0;

    void write(Problem problem, int constraint) {
      length = 0;
      put('a' + problem.kinds[constraint]);
      for (int v = 0; v < problem.variables; v++) {
        if (problem.isMember(v, constraint)) {
          put('0' + v);
        }
      }
      put(':');
      putNumber(problem.numbers[constraint]);
      put('*');
      putNumber(problem.weights[constraint]);
      put(';');
    }

    private void putNumber(int number) {
      int size = Math.abs(number);
      if (number < 0) {
        put('-');
      }
      if (size > 9) {
        put('0' + size / 10);
      }
      put('0' + size % 10);
    }

    private void put(int code) {
      if (length < LONGEST_DESCRIPTION) {
        signs[length] = (char) code;
        length++;
      }
    }
  }
}
