/** Counts what is not as due; a test's main method ends with finish. */
final class Checks {
  interface Call {
    Object answer();
  }

  private static int checked = 0;
  private static int wrong = 0;
  private static String sentence = "";

  private Checks() {
  }

  /** Names the sentence of the document, behind the number of its promise or D, that the next checks are about. */
  static void sentence(String words) {
    sentence = " [" + words + "]";
  }

  static void due(String what, Object want, Object got) {
    checked++;
    if (!want.equals(got)) {
      wrong++;
      System.out.println(what + ": answered " + got + ", due is " + want + sentence);
    }
  }

  static void fails(String what, Class<? extends RuntimeException> want, Call call) {
    due(what, want.getSimpleName(), outcome(call));
  }

  static Object outcome(Call call) {
    try {
      return call.answer();
    } catch (RuntimeException e) {
      return e.getClass().getSimpleName();
    }
  }

  /** Adds variables with the sizes. */
  static TabuSolver solver(int... sizes) {
    TabuSolver x = new TabuSolver();
    for (int size : sizes) {
      x.addVariable(size);
    }
    return x;
  }

  static TabuSolver withValues(TabuSolver x, int... values) {
    for (int v = 0; v < values.length; v++) {
      x.setValue(v, values[v]);
    }
    return x;
  }

  static String values(TabuSolver x) {
    return row(x, 1);
  }

  static String bestValues(TabuSolver x) {
    return row(x, 2);
  }

  private static String row(TabuSolver x, int what) {
    StringBuilder text = new StringBuilder();
    int variables = x.count(0);
    for (int v = 0; v < variables; v++) {
      text.append(x.variable(v, what));
    }
    return text.toString();
  }

  /** The kind and the numbers of a possible move. */
  static String move(TabuSolver x, int index) {
    return x.move(index, 0) + ":" + x.move(index, 1) + "," + x.move(index, 2) + "," + x.move(index, 3);
  }

  static String logged(TabuSolver x, int index) {
    return x.log(index, 0) + ":" + x.log(index, 1) + "," + x.log(index, 2) + "," + x.log(index, 3);
  }

  static void type(TabuSolver x, String text) {
    for (char sign : text.toCharArray()) {
      x.append(sign);
    }
  }

  static String description(TabuSolver x, int constraint) {
    StringBuilder text = new StringBuilder();
    int length = x.describe(constraint, -1);
    for (int i = 0; i < length; i++) {
      text.append((char) x.describe(constraint, i));
    }
    return text.toString();
  }

  static void finish(String name) {
    System.out.println(name + ": " + (checked - wrong) + " checks as due, " + wrong + " not");
    if (wrong != 0) {
      System.exit(1);
    }
  }
}
