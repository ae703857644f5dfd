import java.util.ArrayList;
import java.util.List;
import java.util.Random;

/** Runs of calls with fixed seeds, each answered by TabuSolver as by the plain model of the document. */
public final class RandomRunsTest {
  private static final int RUNS = Integer.getInteger("runs", 800);
  private static final int MOST_CALLS = 512;

  private final Random random;
  private final TabuSolver solver = new TabuSolver();
  private final PlainSolver model = new PlainSolver();
  private final List<String> calls = new ArrayList<>();
  private final int liveliness;
  private final int mostVariables;
  private boolean isAsDue = true;

  private RandomRunsTest(int run) {
    random = new Random(run);
    liveliness = random.nextInt(4);
    mostVariables = 2 + random.nextInt(run % 50 == 0 ? 9 : 4);
  }

  public static void main(String[] args) {
    int wrong = 0;
    for (int run = 0; run < RUNS && wrong < 3; run++) {
      if (!new RandomRunsTest(run).goesAsDue(run)) {
        wrong++;
      }
    }
    System.out.println("RandomRunsTest: " + RUNS + " runs, " + wrong + " not as due");
    if (wrong != 0) {
      System.exit(1);
    }
  }

  private boolean goesAsDue(int run) {
    prepare();
    while (isAsDue && calls.size() < MOST_CALLS) {
      any();
    }
    if (!isAsDue) {
      int from = Math.max(0, calls.size() - 30);
      System.out.println("run " + run + ", the last calls:");
      calls.subList(from, calls.size()).forEach(System.out::println);
    }
    return isAsDue;
  }

  private void call(String name, Object... arguments) {
    if (calls.size() >= MOST_CALLS || !isAsDue) {
      return;
    }
    Object want = Reflected.answer(model, name, arguments);
    Object got = Reflected.answer(solver, name, arguments);
    isAsDue = want.equals(got);
    calls.add(name + List.of(arguments) + " answered " + got + (isAsDue ? "" : ", due is " + want));
  }

  private void prepare() {
    int variables = random.nextInt(mostVariables + 1);
    for (int v = 0; v < variables; v++) {
      call("addVariable", 2 + random.nextInt(random.nextBoolean() ? 3 : 7));
    }
    int constraints = random.nextInt(6);
    for (int c = 0; c < constraints; c++) {
      addConstraint();
    }
  }

  private void addConstraint() {
    int kind = random.nextInt(6);
    int most = kind == 1 || kind == 2 ? 20 : 4;
    int number = random.nextInt(10) == 0 ? random.nextInt(101) - 50 : random.nextInt(most) - 1;
    call("addConstraint", kind, members(), number, 1 + random.nextInt(9));
  }

  private int members() {
    int n = model.count(0);
    int set = 1 << random.nextInt(n + 1) | 1 << random.nextInt(n + 1) | random.nextInt(1 << n + 1);
    return random.nextInt(30) == 0 ? random.nextInt() : set & (1 << n) - 1;
  }

  /** Mostly a number that there is, now and then one that is not. */
  private int near(int most) {
    int odds = random.nextInt(40);
    return odds == 0 ? -1 : odds == 1 ? most : odds == 2 ? random.nextInt() : random.nextInt(Math.max(1, most));
  }

  private void any() {
    int odds = random.nextInt(100);
    if (odds < 30) {
      walk();
    } else if (odds < 45) {
      set();
    } else if (odds < 48 + 3 * liveliness) {
      change();
    } else {
      ask();
    }
  }

  private void walk() {
    switch (random.nextInt(8)) {
      case 0 -> call("run", near(20));
      case 1 -> call("descend");
      case 2 -> call("restart");
      case 3 -> call("takeBest");
      default -> call("step");
    }
  }

  private void set() {
    switch (random.nextInt(8)) {
      case 0, 1 -> call("setNeighborhood", random.nextInt(3) == 0 ? 15 : near(16));
      case 2 -> call("setTenure", near(random.nextBoolean() ? 6 : 21));
      case 3 -> call("setPatience", near(random.nextBoolean() ? 6 : 101));
      case 4 -> call("setSeed", random.nextInt());
      case 5, 6 -> {
        if (random.nextInt(8) == 0) {
          type();
        }
      }
      default -> {
        if (random.nextInt(3) <= liveliness) {
          call("setValue", near(model.count(0)), near(4));
        }
      }
    }
  }

  private void change() {
    switch (random.nextInt(14)) {
      case 0, 1 -> call("addVariable", near(9));
      case 2, 3 -> addConstraint();
      case 4 -> call("setDomain", near(model.count(0)), near(9));
      case 5 -> call("removeConstraint", near(model.count(1)));
      case 6 -> call("setWeight", near(model.count(1)), near(10));
      case 7, 8 -> call("undo");
      case 9 -> call("save");
      case 10 -> call("restore");
      case 11 -> {
        if (random.nextInt(6) == 0) {
          call("clear");
        } else {
          undoAll();
        }
      }
      case 12 -> prepare();
      default -> type();
    }
  }

  private void undoAll() {
    for (int i = 0; i < 9; i++) {
      call("undo");
    }
  }

  private void type() {
    String text = text();
    if (random.nextInt(3) == 0) {
      text = spoiled(text);
    }
    for (char sign : text.toCharArray()) {
      call("append", sign);
    }
    if (random.nextInt(10) != 0) {
      call("read");
      call("errorPosition");
    }
  }

  private String text() {
    StringBuilder text = new StringBuilder();
    int variables = model.count(0);
    int entries = 1 + random.nextInt(5);
    for (int i = 0; i < entries; i++) {
      if (variables < 2 || random.nextInt(5) == 0) {
        text.append('v').append(2 + random.nextInt(7)).append(';');
        variables++;
      } else {
        putConstraint(text, random.nextInt(30) == 0 ? 9 : variables);
      }
    }
    return text.toString();
  }

  private void putConstraint(StringBuilder text, int variables) {
    int first = random.nextInt(variables);
    text.append((char) ('a' + random.nextInt(6)));
    for (int v = 0; v < Math.min(variables, 10); v++) {
      if (v == first || random.nextInt(variables) < 2) {
        text.append(v);
      }
    }
    String[] numbers = {"0", "-0", "00", "05", "-07", "9", "-3", "50", "-50", "49", "51", "12", "2", "1", "3"};
    text.append(':').append(numbers[random.nextInt(numbers.length)]);
    text.append('*').append(1 + random.nextInt(9)).append(';');
  }

  private String spoiled(String text) {
    int at = random.nextInt(text.length());
    String signs = "v;abfg0123456789:-* x~";
    String sign = String.valueOf(signs.charAt(random.nextInt(signs.length())));
    return switch (random.nextInt(4)) {
      case 0 -> text.substring(0, at);
      case 1 -> text.substring(0, at) + sign + text.substring(at);
      case 2 -> text.substring(0, at) + text.substring(at + 1);
      default -> text.substring(0, at) + sign + text.substring(at + 1);
    };
  }

  private void ask() {
    int variables = model.count(0);
    int constraints = model.count(1);
    switch (random.nextInt(26)) {
      case 0 -> call("count", near(4));
      case 1 -> call("constraint", near(constraints), near(4));
      case 2, 3 -> call("variable", near(variables), near(5));
      case 4 -> call("cost");
      case 5 -> call("bestCost");
      case 6 -> call("violation", near(constraints), random.nextBoolean());
      case 7 -> call("mostBlamed");
      case 8 -> call("relief", near(variables));
      case 9, 10 -> call("moves", random.nextBoolean());
      case 11, 12 -> call("move", near(model.moves(false)), near(6));
      case 13 -> call("nextMove");
      case 14, 15 -> call("isForbidden", near(variables), near(4));
      case 16 -> call("isLocalOptimum");
      case 17 -> call("search", near(5));
      case 18 -> call("logSize");
      case 19, 20 -> call("log", near(model.logSize()), near(6));
      case 21 -> call("improvingShare");
      case 22 -> call("describe", near(constraints), near(12) - 1);
      case 23 -> call("append", (char) (random.nextBoolean() ? near(200) : 126));
      default -> exact(variables);
    }
  }

  private void exact(int variables) {
    // The model is slow where there are many combinations.
    if (model.count(3) > 1500 && model.count(3) <= 5000 && random.nextInt(20) != 0) {
      return;
    }
    switch (random.nextInt(5)) {
      case 0 -> call("optimum");
      case 1 -> call("optima");
      case 2 -> call("optimalValue", near(variables));
      case 3 -> call("worst");
      default -> call("unavoidable");
    }
  }
}
