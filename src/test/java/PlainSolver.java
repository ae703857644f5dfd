import java.util.ArrayList;
import java.util.List;
import java.util.NoSuchElementException;
import java.util.regex.Matcher;
import java.util.regex.Pattern;

/** The document a second time, written as a slow model of lists, for RandomRunsTest to compare with. */
public final class PlainSolver {
  private record Rule(int kind, int set, int number, int weight) {
  }

  private record Shot(List<Integer> sizes, List<Integer> values, List<Rule> rules) {
  }

  private record Step(int kind, int a, int b, int c, List<Integer> after) {
  }

  private record Logged(Step step, int costBefore, int cost, int iteration) {
  }

  private record Ban(int variable, int value, int lastIteration) {
  }

  private static final Pattern ENTRY =
      Pattern.compile("v([2-8]);|([a-f])(?=\\d\\d)(0?1?2?3?4?5?6?7?8?9?):(-?)(50|[0-4]?\\d|[5-9])\\*([1-9]);");
  private static final Pattern TEXT = Pattern.compile("(?:" + ENTRY.pattern() + ")+");
  /** What a prefix that can be continued can be continued with. */
  private static final String[] ENDINGS = {"", "v2;", "2;", ";", "01:0*1;", "9:0*1;", ":0*1;", "0*1;", "*1;", "1;"};

  private List<Integer> sizes = new ArrayList<>();
  private List<Integer> values = new ArrayList<>();
  private List<Rule> rules = new ArrayList<>();
  private List<Integer> best = new ArrayList<>();
  private int bestIteration;
  private int iteration;
  private int idle;
  private int restarts;
  private final List<Logged> logged = new ArrayList<>();
  private final List<Ban> bans = new ArrayList<>();
  private final List<Shot> past = new ArrayList<>();
  private Shot savedShot = null;
  private int neighborhood = 15;
  private int tenure = 3;
  private int patience = 20;
  private long seed = 1;
  private String typed = "";
  private Integer error = null;

  private static void illegalIf(boolean isWrong) {
    if (isWrong) {
      throw new IllegalArgumentException();
    }
  }

  private static void stateIf(boolean isWrong) {
    if (isWrong) {
      throw new IllegalStateException();
    }
  }

  private static void indexIf(boolean isWrong) {
    if (isWrong) {
      throw new IndexOutOfBoundsException();
    }
  }

  private static void missingIf(boolean isWrong) {
    if (isWrong) {
      throw new NoSuchElementException();
    }
  }

  private void noVariable(int v) {
    indexIf(v < 0 || v >= sizes.size());
  }

  private void noRule(int c) {
    indexIf(c < 0 || c >= rules.size());
  }

  private Shot shot() {
    return new Shot(new ArrayList<>(sizes), new ArrayList<>(values), new ArrayList<>(rules));
  }

  private void take(Shot shot) {
    sizes = new ArrayList<>(shot.sizes);
    values = new ArrayList<>(shot.values);
    rules = new ArrayList<>(shot.rules);
    begin();
  }

  private void change() {
    past.add(shot());
    if (past.size() > 8) {
      past.remove(0);
    }
  }

  private void begin() {
    best = new ArrayList<>(values);
    bestIteration = 0;
    iteration = 0;
    idle = 0;
    restarts = 0;
    logged.clear();
    bans.clear();
  }

  private static int breach(Rule rule, List<Integer> row) {
    List<Integer> held = new ArrayList<>();
    for (int v = 0; v < row.size(); v++) {
      if ((rule.set & 1 << v) != 0) {
        held.add(row.get(v));
      }
    }
    int sum = held.stream().mapToInt(n -> n).sum();
    int equalPairs = 0;
    int nearPairs = 0;
    int notRising = 0;
    for (int i = 0; i < held.size(); i++) {
      for (int j = i + 1; j < held.size(); j++) {
        equalPairs += held.get(i).equals(held.get(j)) ? 1 : 0;
        nearPairs += Math.abs(held.get(i) - held.get(j)) < rule.number ? 1 : 0;
      }
      notRising += i > 0 && held.get(i) < rule.number + held.get(i - 1) ? 1 : 0;
    }
    int zeros = (int) held.stream().filter(n -> n == 0).count();
    int[] all = {equalPairs, sum > rule.number ? sum - rule.number : 0, Math.abs(sum - rule.number), notRising,
      Math.abs(zeros - rule.number), nearPairs};
    return all[rule.kind];
  }

  private int price(List<Integer> row) {
    return rules.stream().mapToInt(rule -> rule.weight * breach(rule, row)).sum();
  }

  private List<Integer> with(int... pairs) {
    List<Integer> row = new ArrayList<>(values);
    for (int i = 0; i < pairs.length; i += 2) {
      row.set(pairs[i], pairs[i + 1]);
    }
    return row;
  }

  private boolean areInDomains(List<Integer> row) {
    for (int v = 0; v < row.size(); v++) {
      if (row.get(v) < 0 || row.get(v) >= sizes.get(v)) {
        return false;
      }
    }
    return true;
  }

  /** All moves with numbers from 0 to 9, in order, of which those stay that are possible. */
  private List<Step> possible() {
    List<Step> list = new ArrayList<>();
    int n = sizes.size();
    for (int a = 0; a < n; a++) {
      for (int b = 0; b < 8; b++) {
        addStep(list, 0, a, b, -1, b != values.get(a), with(a, b));
      }
    }
    for (int a = 0; a < n; a++) {
      for (int b = 0; b < n; b++) {
        List<Integer> after = with(a, values.get(b), b, values.get(a));
        addStep(list, 1, a, b, -1, a < b && !values.get(a).equals(values.get(b)), after);
      }
    }
    for (int a = 0; a < n; a++) {
      addStep(list, 2, a, 0, -1, true, with(a, Math.floorMod(values.get(a) - 1, sizes.get(a))));
      addStep(list, 2, a, 1, -1, true, with(a, Math.floorMod(values.get(a) + 1, sizes.get(a))));
    }
    for (int a = 0; a < n; a++) {
      for (int b = 0; b < n; b++) {
        for (int c = 0; c < n; c++) {
          List<Integer> after = with(b, values.get(a), c, values.get(b), a, values.get(c));
          addStep(list, 3, a, b, c, a < b && a < c && b != c && !after.equals(values), after);
        }
      }
    }
    return list;
  }

  private void addStep(List<Step> list, int kind, int a, int b, int c, boolean isMove, List<Integer> after) {
    if (isMove && (neighborhood & 1 << kind) != 0 && areInDomains(after)) {
      list.add(new Step(kind, a, b, c, after));
    }
  }

  private boolean bansNow(int variable, int value) {
    return bans.stream()
        .anyMatch(ban -> ban.variable == variable && ban.value == value && iteration <= ban.lastIteration);
  }

  private boolean holds(Step step) {
    if (price(step.after) < price(best)) {
      return false;
    }
    for (int v = 0; v < values.size(); v++) {
      if (!step.after.get(v).equals(values.get(v)) && bansNow(v, step.after.get(v))) {
        return true;
      }
    }
    return false;
  }

  private Step chosen() {
    Step least = null;
    for (Step step : possible()) {
      if (!holds(step) && (least == null || price(step.after) < price(least.after))) {
        least = step;
      }
    }
    return least;
  }

  private boolean improveBest() {
    if (price(values) >= price(best)) {
      return false;
    }
    best = new ArrayList<>(values);
    bestIteration = iteration;
    return true;
  }

  private void make(Step step) {
    iteration++;
    for (int v = 0; v < values.size(); v++) {
      if (!step.after.get(v).equals(values.get(v))) {
        bans.add(new Ban(v, values.get(v), iteration + tenure));
      }
    }
    logged.add(new Logged(step, price(values), price(step.after), iteration));
    if (logged.size() > 40) {
      logged.remove(0);
    }
    values = new ArrayList<>(step.after);
    if (improveBest()) {
      idle = 0;
    } else {
      idle++;
      if (idle >= patience) {
        restart();
      }
    }
  }

  private List<List<Integer>> all() {
    stateIf(count(3) > 5000);
    List<List<Integer>> rows = new ArrayList<>();
    rows.add(new ArrayList<>());
    for (int size : sizes) {
      List<List<Integer>> longer = new ArrayList<>();
      for (List<Integer> row : rows) {
        for (int value = 0; value < size; value++) {
          List<Integer> next = new ArrayList<>(row);
          next.add(value);
          longer.add(next);
        }
      }
      rows = longer;
    }
    return rows;
  }

  private List<List<Integer>> cheapestRows() {
    List<List<Integer>> rows = all();
    int least = rows.stream().mapToInt(this::price).min().getAsInt();
    return rows.stream().filter(row -> price(row) == least).toList();
  }

  public int clear() {
    int before = sizes.size();
    take(new Shot(List.of(), List.of(), List.of()));
    past.clear();
    neighborhood = 15;
    tenure = 3;
    patience = 20;
    seed = 1;
    return before;
  }

  public int addVariable(int size) {
    illegalIf(size < 2 || size > 8);
    stateIf(sizes.size() == 10);
    change();
    sizes.add(size);
    values.add(0);
    begin();
    return sizes.size() - 1;
  }

  public int setDomain(int variable, int size) {
    noVariable(variable);
    illegalIf(size < 2 || size > 8);
    change();
    int before = sizes.set(variable, size);
    if (values.get(variable) >= size) {
      values.set(variable, size - 1);
    }
    begin();
    return before;
  }

  private boolean areKnown(int members) {
    for (int v = sizes.size(); v < 32; v++) {
      if ((members & 1 << v) != 0) {
        return false;
      }
    }
    return true;
  }

  public int addConstraint(int kind, int members, int number, int weight) {
    illegalIf(kind < 0 || kind > 5 || number < -50 || number > 50 || weight < 1 || weight > 9);
    illegalIf(!areKnown(members) || Integer.bitCount(members) < 2);
    stateIf(rules.size() == 20);
    change();
    rules.add(new Rule(kind, members, number, weight));
    begin();
    return rules.size() - 1;
  }

  public int removeConstraint(int constraint) {
    noRule(constraint);
    change();
    rules.remove(constraint);
    begin();
    return rules.size();
  }

  public int setWeight(int constraint, int weight) {
    noRule(constraint);
    illegalIf(weight < 1 || weight > 9);
    change();
    Rule old = rules.get(constraint);
    rules.set(constraint, new Rule(old.kind, old.set, old.number, weight));
    begin();
    return old.weight;
  }

  public int setValue(int variable, int value) {
    noVariable(variable);
    illegalIf(value < 0 || value >= sizes.get(variable));
    int before = values.set(variable, value);
    begin();
    return before;
  }

  public int count(int what) {
    illegalIf(what < 0 || what > 3);
    int violated = (int) rules.stream().filter(rule -> breach(rule, values) > 0).count();
    int combinations = sizes.stream().reduce(1, (a, b) -> a * b);
    return new int[] {sizes.size(), rules.size(), violated, combinations}[what];
  }

  public int constraint(int constraint, int what) {
    noRule(constraint);
    illegalIf(what < 0 || what > 3);
    Rule rule = rules.get(constraint);
    return new int[] {rule.kind, rule.set, rule.number, rule.weight}[what];
  }

  public int variable(int variable, int what) {
    noVariable(variable);
    illegalIf(what < 0 || what > 4);
    List<Rule> own = rules.stream().filter(rule -> (rule.set >> variable) % 2 == 1).toList();
    int conflict = own.stream().mapToInt(rule -> rule.weight * breach(rule, values)).sum();
    return new int[] {sizes.get(variable), values.get(variable), best.get(variable), conflict, own.size()}[what];
  }

  public int cost() {
    return price(values);
  }

  public int bestCost() {
    return price(best);
  }

  public int violation(int constraint, boolean isBest) {
    noRule(constraint);
    return breach(rules.get(constraint), isBest ? best : values);
  }

  public int mostBlamed() {
    int greatest = 0;
    for (int v = 0; v < sizes.size(); v++) {
      greatest = Math.max(greatest, variable(v, 3));
    }
    missingIf(greatest == 0);
    for (int v = 0; v < sizes.size(); v++) {
      if (variable(v, 3) == greatest) {
        return v;
      }
    }
    throw new IllegalStateException("not reached");
  }

  public int relief(int variable) {
    noVariable(variable);
    List<Integer> reliefs = new ArrayList<>();
    for (int value = 0; value < sizes.get(variable); value++) {
      if (value != values.get(variable)) {
        reliefs.add(price(values) - price(with(variable, value)));
      }
    }
    return reliefs.stream().mapToInt(n -> n).max().getAsInt();
  }

  public int takeBest() {
    int before = price(values);
    values = new ArrayList<>(best);
    return before - price(values);
  }

  public int setNeighborhood(int kinds) {
    illegalIf(kinds < 0 || kinds > 15);
    int before = neighborhood;
    neighborhood = kinds;
    return before;
  }

  public int setTenure(int tenure) {
    illegalIf(tenure < 0 || tenure > 20);
    int before = this.tenure;
    this.tenure = tenure;
    return before;
  }

  public int setPatience(int patience) {
    illegalIf(patience < 1 || patience > 100);
    int before = this.patience;
    this.patience = patience;
    return before;
  }

  public int setSeed(int seed) {
    illegalIf(seed < 0);
    int before = (int) this.seed;
    this.seed = seed;
    return before;
  }

  public int moves(boolean isHeld) {
    return (int) possible().stream().filter(step -> !isHeld || holds(step)).count();
  }

  public int move(int index, int what) {
    List<Step> list = possible();
    indexIf(index < 0 || index >= list.size());
    illegalIf(what < 0 || what > 5);
    Step step = list.get(index);
    return new int[] {step.kind, step.a, step.b, step.c, price(step.after), holds(step) ? 1 : 0}[what];
  }

  public int nextMove() {
    Step next = chosen();
    missingIf(next == null);
    return possible().indexOf(next);
  }

  public boolean isForbidden(int variable, int value) {
    noVariable(variable);
    illegalIf(value < 0 || value >= sizes.get(variable));
    return bansNow(variable, value);
  }

  public boolean isLocalOptimum() {
    return possible().stream().allMatch(step -> price(step.after) >= price(values));
  }

  public int step() {
    Step next = chosen();
    missingIf(next == null);
    make(next);
    return price(values);
  }

  public int run(int steps) {
    illegalIf(steps < 1 || steps > 30);
    int made = 0;
    while (made < steps && price(values) != 0) {
      Step next = chosen();
      if (next == null) {
        break;
      }
      make(next);
      made++;
    }
    return made;
  }

  public int descend() {
    int made = 0;
    while (true) {
      Step least = null;
      for (Step step : possible()) {
        if (price(step.after) < price(least == null ? values : least.after)) {
          least = step;
        }
      }
      if (least == null) {
        return made;
      }
      values = new ArrayList<>(least.after);
      improveBest();
      made++;
    }
  }

  public int restart() {
    for (int v = 0; v < sizes.size(); v++) {
      seed = (seed * 1103515245L + 12345L) % (1L << 31);
      values.set(v, (int) (seed / 65536 % sizes.get(v)));
    }
    bans.clear();
    idle = 0;
    restarts++;
    improveBest();
    return price(values);
  }

  public int search(int what) {
    illegalIf(what < 0 || what > 4);
    return new int[] {iteration, idle, restarts, (int) seed, bestIteration}[what];
  }

  public int logSize() {
    return logged.size();
  }

  public int log(int index, int what) {
    indexIf(index < 0 || index >= logged.size());
    illegalIf(what < 0 || what > 5);
    Logged one = logged.get(index);
    return new int[] {one.step.kind, one.step.a, one.step.b, one.step.c, one.cost, one.iteration}[what];
  }

  public double improvingShare() {
    if (logged.isEmpty()) {
      throw new ArithmeticException();
    }
    return (double) logged.stream().filter(one -> one.cost < one.costBefore).count() / logged.size();
  }

  public int optimum() {
    return price(cheapestRows().get(0));
  }

  public int optima() {
    return cheapestRows().size();
  }

  public int optimalValue(int variable) {
    noVariable(variable);
    return cheapestRows().get(0).get(variable);
  }

  public int worst() {
    return all().stream().mapToInt(this::price).max().getAsInt();
  }

  public int unavoidable() {
    List<List<Integer>> rows = cheapestRows();
    return (int) rules.stream().filter(rule -> rows.stream().allMatch(row -> breach(rule, row) > 0)).count();
  }

  public int append(char character) {
    illegalIf(character < ' ' || character > '~');
    stateIf(typed.length() == 60);
    typed += character;
    return typed.length();
  }

  public int read() {
    String text = typed;
    typed = "";
    if (!TEXT.matcher(text).matches()) {
      error = errorIn(text);
      throw new IllegalArgumentException();
    }
    Shot before = shot();
    int entries = 0;
    for (Matcher entry = ENTRY.matcher(text); entry.find(); entries++) {
      if (!addEntry(entry)) {
        sizes = before.sizes;
        values = before.values;
        rules = before.rules;
        throw new IllegalStateException();
      }
    }
    past.add(before);
    if (past.size() > 8) {
      past.remove(0);
    }
    begin();
    return entries;
  }

  private boolean addEntry(Matcher entry) {
    if (entry.group(1) != null) {
      sizes.add(Integer.parseInt(entry.group(1)));
      values.add(0);
      return sizes.size() <= 10;
    }
    int set = 0;
    for (char digit : entry.group(3).toCharArray()) {
      set += 1 << Character.digit(digit, 10);
    }
    int number = Integer.parseInt(entry.group(4) + entry.group(5));
    rules.add(new Rule(entry.group(2).charAt(0) - 'a', set, number, Integer.parseInt(entry.group(6))));
    return rules.size() <= 20 && areKnown(set);
  }

  private static int errorIn(String text) {
    for (int k = 0; k < text.length(); k++) {
      if (!canGoOn(text.substring(0, k + 1))) {
        return k;
      }
    }
    return text.length();
  }

  private static boolean canGoOn(String start) {
    for (String ending : ENDINGS) {
      if (TEXT.matcher(start + ending).matches()) {
        return true;
      }
    }
    return false;
  }

  public int errorPosition() {
    missingIf(error == null);
    return error;
  }

  public int describe(int constraint, int index) {
    noRule(constraint);
    Rule rule = rules.get(constraint);
    StringBuilder text = new StringBuilder().append("abcdef".charAt(rule.kind));
    for (int v = 0; v < 10; v++) {
      text.append((rule.set >> v) % 2 == 1 ? Integer.toString(v) : "");
    }
    text.append(':').append(rule.number).append('*').append(rule.weight).append(';');
    missingIf(index < -1 || index >= text.length());
    return index == -1 ? text.length() : text.charAt(index);
  }

  public int undo() {
    missingIf(past.isEmpty());
    take(past.remove(past.size() - 1));
    return past.size();
  }

  public int save() {
    savedShot = shot();
    return sizes.size();
  }

  public int restore() {
    stateIf(savedShot == null);
    take(savedShot);
    past.clear();
    return sizes.size();
  }
}
