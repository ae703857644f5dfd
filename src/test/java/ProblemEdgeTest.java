/** What the document's sentences on variables, constraints and promises 1 to 11 name as boundary cases. */
public final class ProblemEdgeTest {
  public static void main(String[] args) {
    atMostTenVariables();
    tenVariablesByRead();
    variablesAreNumberedInOrder();
    domainSizes();
    values();
    valuesAreZeroAtFirst();
    domainThatLosesTheValue();
    domainThatKeepsTheValue();
    atMostTwentyConstraints();
    twentyConstraintsByRead();
    constraintsAreNumberedInOrder();
    kinds();
    weights();
    numbersOfConstraints();
    setsOfMembers();
    membersMustExist();
    laterNumbersDecrease();
    removalOfTheOnlyOne();
    removalFromTwenty();
    setWeightAnswersThePreviousOne();
    setValueAnswersThePreviousOne();
    newSolver();
    clearOfTheEmpty();
    clearOfTheFull();
    clearMakesSettingsAtFirst();
    clearLeaves();
    clearBeginsTheSearch();
    countOfViolated();
    countOfCombinations();
    partsOfVariables();
    conflictAddsUpOverItsConstraints();
    lastCall();
    Checks.finish("ProblemEdgeTest");
  }

  private static TabuSolver tenOfEight() {
    return Checks.solver(8, 8, 8, 8, 8, 8, 8, 8, 8, 8);
  }

  private static TabuSolver twentyConstraints() {
    TabuSolver x = Checks.solver(8, 8, 8);
    for (int c = 0; c < 20; c++) {
      x.addConstraint(c % 6, c % 2 == 0 ? 3 : 7, c, c % 9 + 1);
    }
    return x;
  }

  private static void atMostTenVariables() {
    Checks.sentence("D, 3: There are at most 10 variables");
    TabuSolver x = Checks.solver(2, 2, 2, 2, 2, 2, 2, 2, 2);
    Checks.due("the tenth variable", 9, x.addVariable(8));
    Checks.due("ten variables", 10, x.count(0));
    Checks.fails("the eleventh variable", IllegalStateException.class, () -> x.addVariable(8));
    Checks.due("still ten variables", 10, x.count(0));
    x.undo();
    Checks.due("a tenth variable after undo", 9, x.addVariable(3));
    Checks.due("its size", 3, x.variable(9, 0));
  }

  private static void tenVariablesByRead() {
    Checks.sentence("D, 41: There are at most 10 variables");
    TabuSolver x = Checks.solver(2, 2, 2, 2, 2, 2, 2, 2, 2);
    Checks.type(x, "v2;v3;");
    Checks.fails("a text with the eleventh variable", IllegalStateException.class, x::read);
    Checks.due("nine variables", 9, x.count(0));
    Checks.type(x, "v3;");
    Checks.due("a text with the tenth variable", 1, x.read());
    Checks.due("ten variables", 10, x.count(0));
  }

  private static void variablesAreNumberedInOrder() {
    Checks.sentence("D: numbered from 0 in the order in which they were added");
    TabuSolver x = new TabuSolver();
    for (int v = 0; v < 7; v++) {
      Checks.due("number of a variable", v, x.addVariable(8 - v));
    }
    for (int v = 0; v < 7; v++) {
      Checks.due("size of variable " + v, 8 - v, x.variable(v, 0));
    }
  }

  private static void domainSizes() {
    Checks.sentence("D, 3: A variable has a domain size from 2 to 8");
    for (int size = -1; size <= 10; size++) {
      TabuSolver x = new TabuSolver();
      int tried = size;
      Object due = size >= 2 && size <= 8 ? (Object) 0 : "IllegalArgumentException";
      Checks.due("addVariable(" + size + ")", due, Checks.outcome(() -> x.addVariable(tried)));
      Checks.due("variables after it", size >= 2 && size <= 8 ? 1 : 0, x.count(0));
    }
    Checks.sentence("4: the domain size, 2 to 8");
    for (int size = -1; size <= 10; size++) {
      TabuSolver x = Checks.solver(4, 5);
      int tried = size;
      boolean isSize = size >= 2 && size <= 8;
      Object due = isSize ? (Object) 5 : "IllegalArgumentException";
      Checks.due("setDomain(1, " + size + ")", due, Checks.outcome(() -> x.setDomain(1, tried)));
      Checks.due("size after it", isSize ? size : 5, x.variable(1, 0));
      Checks.due("the other size", 4, x.variable(0, 0));
    }
  }

  private static void values() {
    Checks.sentence("D, 8: a value from 0 to the domain size minus 1");
    for (int size = 2; size <= 8; size++) {
      TabuSolver x = Checks.solver(8, size, 8);
      int beyond = size;
      Checks.due("to the last value of " + size, 0, x.setValue(1, size - 1));
      Checks.due("the last value of " + size, size - 1, x.variable(1, 1));
      Checks.fails("a value beyond " + size, IllegalArgumentException.class, () -> x.setValue(1, beyond));
      Checks.fails("a value below 0", IllegalArgumentException.class, () -> x.setValue(1, -1));
      Checks.due("the value stays", size - 1, x.variable(1, 1));
      Checks.due("back to 0", size - 1, x.setValue(1, 0));
      Checks.due("other values", "000", Checks.values(x));
    }
  }

  private static void valuesAreZeroAtFirst() {
    Checks.sentence("D: at first 0");
    TabuSolver x = new TabuSolver();
    x.addVariable(8);
    x.setValue(0, 7);
    x.addVariable(8);
    x.setValue(1, 7);
    x.undo();
    x.addVariable(8);
    Checks.due("a value in the place of an undone variable", "70", Checks.values(x));
    x.setValue(1, 7);
    x.undo();
    Checks.type(x, "v8;v3;");
    x.read();
    Checks.due("values of a text", "700", Checks.values(x));
    x.setValue(2, 2);
    x.clear();
    x.addVariable(4);
    x.addVariable(4);
    Checks.due("values after clear", "00", Checks.values(x));
  }

  private static void domainThatLosesTheValue() {
    Checks.sentence("4: If its value is not in the new domain, it becomes the last one of the domain");
    for (int value = 2; value < 8; value++) {
      for (int size = 2; size <= 8; size++) {
        TabuSolver x = Checks.withValues(Checks.solver(8, 8), value, value);
        Checks.due("the previous size", 8, x.setDomain(0, size));
        String due = Math.min(value, size - 1) + "" + value;
        Checks.due("value " + value + " in size " + size, due, Checks.values(x));
        Checks.due("best values", due, Checks.bestValues(x));
      }
    }
  }

  private static void domainThatKeepsTheValue() {
    Checks.sentence("4: If its value is not in the new domain");
    TabuSolver x = Checks.withValues(Checks.solver(5), 4);
    Checks.due("to a greater domain", 5, x.setDomain(0, 8));
    Checks.due("its value stays", 4, x.variable(0, 1));
    Checks.due("to one of which it is the last value", 8, x.setDomain(0, 5));
    Checks.due("its value stays then", 4, x.variable(0, 1));
    Checks.due("to one without it", 5, x.setDomain(0, 4));
    Checks.due("it becomes the last one", 3, x.variable(0, 1));
    Checks.due("back", 4, x.setDomain(0, 5));
    Checks.due("it does not come back by that", 3, x.variable(0, 1));
  }

  private static void atMostTwentyConstraints() {
    Checks.sentence("D, 5: There are at most 20 constraints");
    TabuSolver x = twentyConstraints();
    Checks.due("twenty constraints", 20, x.count(1));
    Checks.fails("the 21st constraint", IllegalStateException.class, () -> x.addConstraint(0, 3, 0, 1));
    Checks.due("still twenty", 20, x.count(1));
    Checks.due("the last one", "b012:19*2;", Checks.description(x, 19));
    x.removeConstraint(0);
    Checks.due("a twentieth one again", 19, x.addConstraint(4, 6, -7, 9));
    Checks.due("its text", "e12:-7*9;", Checks.description(x, 19));
  }

  private static void twentyConstraintsByRead() {
    Checks.sentence("D, 41: There are at most 20 constraints");
    TabuSolver x = twentyConstraints();
    x.removeConstraint(19);
    Checks.type(x, "a01:0*1;b01:1*2;");
    Checks.fails("a text with the 21st constraint", IllegalStateException.class, x::read);
    Checks.due("nineteen constraints", 19, x.count(1));
    Checks.type(x, "b01:1*2;");
    Checks.due("a text with the twentieth", 1, x.read());
    Checks.due("twenty constraints", 20, x.count(1));
    Checks.due("the last one", "b01:1*2;", Checks.description(x, 19));
  }

  private static void constraintsAreNumberedInOrder() {
    Checks.sentence("D: numbered from 0 in the order in which they were added");
    TabuSolver x = twentyConstraints();
    for (int c = 0; c < 20; c++) {
      Checks.due("kind of " + c, c % 6, x.constraint(c, 0));
      Checks.due("members of " + c, c % 2 == 0 ? 3 : 7, x.constraint(c, 1));
      Checks.due("number of " + c, c, x.constraint(c, 2));
      Checks.due("weight of " + c, c % 9 + 1, x.constraint(c, 3));
    }
  }

  private static void kinds() {
    Checks.sentence("5: the kind, 0 to 5");
    for (int kind = -2; kind <= 7; kind++) {
      TabuSolver x = Checks.solver(2, 2);
      int tried = kind;
      boolean isKind = kind >= 0 && kind <= 5;
      Object due = isKind ? (Object) 0 : "IllegalArgumentException";
      Checks.due("kind " + kind, due, Checks.outcome(() -> x.addConstraint(tried, 3, 0, 1)));
      Checks.due("constraints then", isKind ? 1 : 0, x.count(1));
    }
  }

  private static void weights() {
    for (int weight = -1; weight <= 11; weight++) {
      int tried = weight;
      boolean isWeight = weight >= 1 && weight <= 9;
      TabuSolver x = Checks.solver(2, 2);
      x.addConstraint(0, 3, 0, 5);
      Checks.sentence("D, 7: a weight from 1 to 9");
      Object due = isWeight ? (Object) 5 : "IllegalArgumentException";
      Checks.due("setWeight(0, " + weight + ")", due, Checks.outcome(() -> x.setWeight(0, tried)));
      Checks.due("weight then", isWeight ? weight : 5, x.constraint(0, 3));
      Checks.due("cost then", isWeight ? weight : 5, x.cost());
      Checks.sentence("D, 5: a weight from 1 to 9");
      Object added = isWeight ? (Object) 1 : "IllegalArgumentException";
      Checks.due("weight " + weight, added, Checks.outcome(() -> x.addConstraint(0, 3, 0, tried)));
      Checks.due("constraints then", isWeight ? 2 : 1, x.count(1));
    }
  }

  private static void numbersOfConstraints() {
    Checks.sentence("D, 5: its number is from -50 to 50");
    for (int kind = 0; kind <= 5; kind++) {
      for (int number : new int[] {-52, -51, -50, -49, -1, 0, 1, 49, 50, 51, 52}) {
        TabuSolver x = Checks.solver(2, 2);
        int tried = number;
        int ofKind = kind;
        boolean isNumber = number >= -50 && number <= 50;
        Object due = isNumber ? (Object) 0 : "IllegalArgumentException";
        Checks.due("number " + number, due, Checks.outcome(() -> x.addConstraint(ofKind, 3, tried, 1)));
        Object kept = isNumber ? (Object) number : "IndexOutOfBoundsException";
        Checks.due("the number that is kept", kept, Checks.outcome(() -> x.constraint(0, 2)));
      }
    }
  }

  private static void setsOfMembers() {
    Checks.sentence("D, 5: A constraint has at least 2 members");
    for (int members = 0; members < 32; members++) {
      TabuSolver x = Checks.solver(2, 2, 2, 2, 2);
      int tried = members;
      boolean areTwo = Integer.bitCount(members) >= 2;
      Object due = areTwo ? (Object) 0 : "IllegalArgumentException";
      Checks.due("members " + members, due, Checks.outcome(() -> x.addConstraint(0, tried, 0, 1)));
      Object kept = areTwo ? (Object) members : "IndexOutOfBoundsException";
      Checks.due("the members that are kept", kept, Checks.outcome(() -> x.constraint(0, 1)));
    }
    Checks.sentence("D: Sets are bit masks, bit k for number k");
    TabuSolver y = tenOfEight();
    y.addConstraint(0, 1 << 9 | 1 << 4, 0, 1);
    for (int v = 0; v < 10; v++) {
      Checks.due("constraints of " + v, v == 9 || v == 4 ? 1 : 0, y.variable(v, 4));
    }
  }

  private static void membersMustExist() {
    Checks.sentence("5: a member does not exist");
    for (int n = 2; n <= 10; n++) {
      TabuSolver x = new TabuSolver();
      for (int v = 0; v < n; v++) {
        x.addVariable(2);
      }
      int next = n;
      Checks.due("the last one of " + n, 0, x.addConstraint(0, 1 << n - 1 | 1, 0, 1));
      Checks.due("all of " + n, 1, x.addConstraint(0, (1 << n) - 1, 0, 1));
      for (int bit = n; bit < 32; bit++) {
        int missing = 1 << bit;
        Class<IllegalArgumentException> refused = IllegalArgumentException.class;
        Checks.fails(bit + " of " + n, refused, () -> x.addConstraint(0, missing | 3, 0, 1));
      }
      Checks.fails("two that do not exist", IllegalArgumentException.class, () -> x.addConstraint(0, 3 << next, 0, 1));
      Checks.due("constraints", 2, x.count(1));
    }
  }

  private static void laterNumbersDecrease() {
    Checks.sentence("6: the numbers of the later ones decrease by 1");
    for (int removed = 0; removed < 4; removed++) {
      TabuSolver x = Checks.solver(2, 2, 2, 2);
      x.addConstraint(0, 3, 1, 6);
      x.addConstraint(1, 5, 2, 7);
      x.addConstraint(2, 6, 3, 8);
      x.addConstraint(3, 12, 4, 9);
      Checks.due("constraints that remain", 3, x.removeConstraint(removed));
      StringBuilder texts = new StringBuilder();
      for (int c = 0; c < 3; c++) {
        texts.append(Checks.description(x, c));
      }
      String all = "a01:1*6;b02:2*7;c12:3*8;d23:4*9;";
      Checks.due("without " + removed, all.substring(0, 8 * removed) + all.substring(8 * removed + 8), "" + texts);
      Checks.fails("the last number is free", IndexOutOfBoundsException.class, () -> x.constraint(3, 0));
    }
  }

  private static void removalOfTheOnlyOne() {
    Checks.sentence("6: Returns the number of constraints that remain");
    TabuSolver x = Checks.solver(2, 2);
    x.addConstraint(0, 3, 0, 9);
    Checks.due("none remains", 0, x.removeConstraint(0));
    Checks.due("no constraints", 0, x.count(1));
    Checks.due("no cost", 0, x.cost());
    Checks.due("no best cost", 0, x.bestCost());
    Checks.fails("none to remove", IndexOutOfBoundsException.class, () -> x.removeConstraint(0));
    Checks.due("the next one is number 0 again", 0, x.addConstraint(0, 3, 0, 8));
    Checks.due("its cost", 8, x.cost());
  }

  private static void removalFromTwenty() {
    Checks.sentence("6: Removes a constraint; the numbers of the later ones decrease by 1");
    TabuSolver x = twentyConstraints();
    Checks.fails("number 20", IndexOutOfBoundsException.class, () -> x.removeConstraint(20));
    Checks.due("the last one of twenty", 19, x.removeConstraint(19));
    Checks.fails("number 19 then", IndexOutOfBoundsException.class, () -> x.removeConstraint(19));
    Checks.due("the first one", 18, x.removeConstraint(0));
    for (int c = 0; c < 18; c++) {
      Checks.due("number of " + c, c + 1, x.constraint(c, 2));
    }
  }

  private static void setWeightAnswersThePreviousOne() {
    Checks.sentence("7: Returns the previous weight");
    TabuSolver x = twentyConstraints();
    Checks.due("of the first one", 1, x.setWeight(0, 9));
    Checks.due("of the last one", 2, x.setWeight(19, 1));
    Checks.due("of the first one again", 9, x.setWeight(0, 9));
    Checks.due("of the last one again", 1, x.setWeight(19, 8));
    Checks.due("its neighbor", 1, x.constraint(18, 3));
    Checks.due("the second one", 2, x.constraint(1, 3));
  }

  private static void setValueAnswersThePreviousOne() {
    Checks.sentence("8: Returns the previous value");
    TabuSolver x = tenOfEight();
    Checks.due("of the first one", 0, x.setValue(0, 7));
    Checks.due("of the first one again", 7, x.setValue(0, 7));
    Checks.due("of the last one", 0, x.setValue(9, 7));
    Checks.due("of the last one again", 7, x.setValue(9, 1));
    Checks.due("values", "7000000001", Checks.values(x));
    Checks.due("best values", "7000000001", Checks.bestValues(x));
  }

  private static void newSolver() {
    Checks.sentence("1: Creates a solver without variables and constraints");
    TabuSolver x = new TabuSolver();
    Checks.due("variables", 0, x.count(0));
    Checks.due("constraints", 0, x.count(1));
    Checks.fails("variable 0", IndexOutOfBoundsException.class, () -> x.variable(0, 0));
    Checks.fails("constraint 0", IndexOutOfBoundsException.class, () -> x.constraint(0, 0));
    TabuSolver other = new TabuSolver();
    x.addVariable(3);
    x.setSeed(8);
    Checks.due("objects do not share variables", 0, other.count(0));
    Checks.due("objects do not share settings", 1, other.search(3));
  }

  private static void clearOfTheEmpty() {
    Checks.sentence("2: Returns the number of variables that there were");
    TabuSolver x = new TabuSolver();
    Checks.due("of none", 0, x.clear());
    Checks.due("of none again", 0, x.clear());
    x.addVariable(2);
    Checks.due("of one", 1, x.clear());
    Checks.due("after it", 0, x.clear());
  }

  private static void clearOfTheFull() {
    Checks.sentence("2: Removes all variables and constraints");
    TabuSolver x = Samples.full();
    Checks.due("clear", 10, x.clear());
    Checks.due("variables", 0, x.count(0));
    Checks.due("constraints", 0, x.count(1));
    Checks.due("combinations", 1, x.count(3));
    Checks.fails("no variable", IndexOutOfBoundsException.class, () -> x.variable(0, 0));
    Checks.fails("no constraint", IndexOutOfBoundsException.class, () -> x.constraint(0, 0));
    Checks.due("cost", 0, x.cost());
    for (int v = 0; v < 10; v++) {
      Checks.due("a new variable", v, x.addVariable(2));
    }
    for (int c = 0; c < 20; c++) {
      Checks.due("a new constraint", c, x.addConstraint(0, 1023, 0, 1));
    }
    Checks.due("their cost", 900, x.cost());
  }

  private static void clearMakesSettingsAtFirst() {
    Checks.sentence("2: makes the neighborhood, the tenure, the patience and the seed what they are at first");
    TabuSolver x = Samples.ordinary();
    x.clear();
    Checks.due("neighborhood", 15, x.setNeighborhood(0));
    Checks.due("tenure", 3, x.setTenure(0));
    Checks.due("patience", 20, x.setPatience(1));
    Checks.due("seed", 1, x.setSeed(0));
    Checks.due("the seed is set", 0, x.search(3));
    x.clear();
    Checks.due("neighborhood again", 15, x.setNeighborhood(15));
    Checks.due("tenure again", 3, x.setTenure(3));
    Checks.due("patience again", 20, x.setPatience(20));
    Checks.due("seed again", 1, x.search(3));
  }

  private static void clearLeaves() {
    Checks.sentence("D: clear leaves the input, the error position and what was saved");
    TabuSolver x = Samples.ordinary();
    x.clear();
    Checks.due("error position", 3, x.errorPosition());
    Checks.due("length of the input", 3, x.append(';'));
    Checks.due("the input", 1, x.read());
    Checks.due("its variable", 5, x.variable(0, 0));
    Checks.due("what was saved", 3, x.restore());
    Checks.due("its first variable", 3, x.variable(0, 0));
    Checks.due("its second variable", 4, x.variable(1, 0));
    Checks.due("its second constraint", "a012:0*3;", Checks.description(x, 1));
    Checks.sentence("D: clear and restore forget them");
    TabuSolver y = Samples.ordinary();
    y.clear();
    Checks.fails("undo after clear", java.util.NoSuchElementException.class, y::undo);
    Checks.due("variables after it", 0, y.count(0));
  }

  private static void clearBeginsTheSearch() {
    Checks.sentence("D: The search begins whenever a variable or constraint is .. removed");
    TabuSolver x = Samples.ordinary();
    x.clear();
    Checks.due("iteration", 0, x.search(0));
    Checks.due("steps without improvement", 0, x.search(1));
    Checks.due("restarts", 0, x.search(2));
    Checks.due("iteration of the best cost", 0, x.search(4));
    Checks.due("log", 0, x.logSize());
    Checks.due("best cost", 0, x.bestCost());
    for (int size : new int[] {3, 5, 2}) {
      x.addVariable(size);
    }
    Checks.due("nothing is held", 0, x.moves(true));
  }

  private static void countOfViolated() {
    Checks.sentence("9: 2 for constraints with a violation greater than 0");
    TabuSolver x = Checks.withValues(Checks.solver(4, 4), 1, 2);
    Checks.due("of none", 0, x.count(2));
    x.addConstraint(1, 3, 3, 9);
    Checks.due("a violation of 0", 0, x.count(2));
    x.addConstraint(1, 3, 2, 1);
    Checks.due("a violation of 1", 1, x.count(2));
    x.addConstraint(1, 3, -50, 1);
    Checks.due("a violation of 53", 2, x.count(2));
    x.setValue(0, 0);
    Checks.due("one less", 1, x.count(2));
    Checks.due("all of twenty", 20, violatedOfTwenty().count(2));
  }

  private static TabuSolver violatedOfTwenty() {
    TabuSolver x = Checks.solver(2, 2);
    for (int c = 0; c < 20; c++) {
      x.addConstraint(0, 3, 0, 1);
    }
    return x;
  }

  private static void countOfCombinations() {
    Checks.sentence("9: 3 for combinations of values of all variables");
    TabuSolver x = new TabuSolver();
    Checks.due("without variables", 1, x.count(3));
    int product = 1;
    for (int v = 0; v < 10; v++) {
      x.addVariable(8 - v % 2);
      product *= 8 - v % 2;
      Checks.due("with " + (v + 1) + " variables", product, x.count(3));
    }
    Checks.due("the greatest count", 1073741824, tenOfEight().count(3));
    Checks.due("the least one of ten", 1024, Checks.solver(2, 2, 2, 2, 2, 2, 2, 2, 2, 2).count(3));
  }

  private static void partsOfVariables() {
    Checks.sentence("11: 0 for its domain size, 1 for its value, 2 for its best value, 3 for its conflict, 4 for ..");
    TabuSolver x = Checks.withValues(Checks.solver(3, 5), 2, 4);
    x.addConstraint(2, 3, 6, 2);
    x.setNeighborhood(1);
    x.step();
    Checks.due("size", 3, x.variable(0, 0));
    Checks.due("value", 1, x.variable(0, 1));
    Checks.due("best value", 2, x.variable(0, 2));
    Checks.due("conflict", 2, x.variable(0, 3));
    Checks.due("constraints", 1, x.variable(0, 4));
    Checks.due("the other size", 5, x.variable(1, 0));
    Checks.due("the other value", 4, x.variable(1, 1));
    Checks.due("the other best value", 4, x.variable(1, 2));
  }

  private static void conflictAddsUpOverItsConstraints() {
    Checks.sentence("D, 11: The conflict of a variable is the same sum over the constraints of which it is a member");
    TabuSolver x = Checks.solver(2, 2, 2, 2);
    x.addConstraint(0, 3, 0, 1);
    x.addConstraint(0, 6, 0, 2);
    x.addConstraint(0, 7, 0, 3);
    Checks.due("of the first one", 10, x.variable(0, 3));
    Checks.due("of the one in all", 12, x.variable(1, 3));
    Checks.due("of the third one", 11, x.variable(2, 3));
    Checks.due("of one in none", 0, x.variable(3, 3));
    Checks.due("constraints of the first one", 2, x.variable(0, 4));
    Checks.due("constraints of the one in all", 3, x.variable(1, 4));
    Checks.due("constraints of one in none", 0, x.variable(3, 4));
    TabuSolver y = violatedOfTwenty();
    Checks.due("conflict by twenty constraints", 20, y.variable(1, 3));
    Checks.due("twenty constraints", 20, y.variable(1, 4));
    y.setValue(0, 1);
    Checks.due("no conflict", 0, y.variable(1, 3));
    Checks.due("constraints without a violation count", 20, y.variable(1, 4));
  }

  private static void lastCall() {
    Checks.sentence("What it is: An object is used for at most 512 calls");
    TabuSolver x = Checks.solver(8, 8);
    x.setNeighborhood(1);
    x.setPatience(100);
    for (int call = 5; call < 512; call++) {
      x.step();
    }
    Checks.due("the 512th call", 507, x.search(0));
  }
}
