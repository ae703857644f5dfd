import java.util.NoSuchElementException;

/** Promises 40 to 43: the input, the texts in it, error positions, and the texts of constraints. */
public final class TextTest {
  public static void main(String[] args) {
    append();
    readAdds();
    readTakesNumbers();
    readRefusesWhatIsNoText();
    errorPositions();
    errorPositionIsKept();
    readRefusesTooMuch();
    readRefusesUnknownMembers();
    fullInput();
    describe();
    Checks.finish("TextTest");
  }

  private static void append() {
    TabuSolver x = new TabuSolver();
    Class<IllegalArgumentException> refused = IllegalArgumentException.class;
    Checks.due("append", 1, x.append('v'));
    Checks.due("the least code", 2, x.append(' '));
    Checks.due("the greatest code", 3, x.append('~'));
    Checks.fails("code 31", refused, () -> x.append((char) 31));
    Checks.fails("code 127", refused, () -> x.append((char) 127));
    Checks.fails("code 0", refused, () -> x.append((char) 0));
    Checks.fails("code 65535", refused, () -> x.append((char) 65535));
    for (int i = 4; i <= 60; i++) {
      Checks.due("append", i, x.append('v'));
    }
    Checks.fails("61st character", IllegalStateException.class, () -> x.append('v'));
    Checks.fails("61st character, wrong code", refused, () -> x.append('\n'));
    Checks.fails("60 characters", refused, x::read);
    Checks.due("the input was kept by refusals", 1, x.errorPosition());
    Checks.due("the input is empty then", 1, x.append('v'));
  }

  private static Object read(TabuSolver x, String text) {
    Checks.type(x, text);
    return Checks.outcome(x::read);
  }

  private static void readAdds() {
    TabuSolver x = Checks.solver(4, 4);
    x.addConstraint(0, 3, 0, 1);
    x.setValue(1, 3);
    Checks.due("read", 3, read(x, "v3;c012:-5*7;v8;"));
    Checks.due("variables", 4, x.count(0));
    Checks.due("constraints", 2, x.count(1));
    Checks.due("sizes", "38", "" + x.variable(2, 0) + x.variable(3, 0));
    Checks.due("values", "0300", Checks.values(x));
    Checks.due("the constraint", "c012:-5*7;", Checks.description(x, 1));
    Checks.due("its cost", 56, x.cost());
    Checks.due("best cost", 56, x.bestCost());
    Checks.due("the input is empty", 1, x.append('v'));
    Checks.fails("no error", NoSuchElementException.class, x::errorPosition);
    Checks.due("one change", 3, x.undo());
    Checks.due("all of it is undone", "2,1", x.count(0) + "," + x.count(1));
  }

  private static void readTakesNumbers() {
    TabuSolver x = Checks.solver(2, 2, 2, 2, 2, 2, 2, 2, 2, 2);
    String[] texts = {"a01:0*1;", "b0123456789:00*9;", "c89:05*5;", "d08:-0*2;", "e19:-09*3;", "f29:50*4;",
      "a01:-50*1;", "a01:49*1;", "a01:9*1;", "a01:-6*1;", "a01:10*1;"};
    String[] due = {"a01:0*1;", "b0123456789:0*9;", "c89:5*5;", "d08:0*2;", "e19:-9*3;", "f29:50*4;", "a01:-50*1;",
      "a01:49*1;", "a01:9*1;", "a01:-6*1;", "a01:10*1;"};
    for (int c = 0; c < texts.length; c++) {
      Checks.due(texts[c], 1, read(x, texts[c]));
      Checks.due(texts[c] + " in short", due[c], Checks.description(x, c));
    }
  }

  private static void readRefusesWhatIsNoText() {
    TabuSolver x = Checks.solver(4, 4);
    x.addConstraint(2, 3, 4, 1);
    x.step();
    Checks.due("a good entry and a bad one", "IllegalArgumentException", read(x, "v2;v9;"));
    Checks.due("none was added", 2, x.count(0));
    Checks.due("the search goes on", 1, x.search(0));
    Checks.due("no change is remembered", 2, x.undo());
    Checks.due("the input is empty", 1, x.append('v'));
  }

  private static int errorIn(String text) {
    TabuSolver x = new TabuSolver();
    Checks.due("read of " + text, "IllegalArgumentException", read(x, text));
    return x.errorPosition();
  }

  private static void errorPositions() {
    String[] ended = {"", "v", "v2", "a", "a0", "a01", "a01:", "a01:-", "a01:1", "a01:10", "a01:10*", "a01:10*1", "v2;v",
      "a01:0*1;b", "b89", "f0123456789"};
    for (String text : ended) {
      Checks.due("end of " + text, text.length(), errorIn(text));
    }
    String[] wrongAtTheLast = {"x", "V", "g", " ", ";", "1", "v1", "v9", "v;", "v22", "v2 ", "v2;;", "v2;w", "a:", "a9", "a00",
      "a10", "a0:", "a010", "a011", "a021", "a01;", "a01*", "a01-", "a0123456789a", "a890", "a899", "a01::", "a01:*",
      "a01:--", "a01:-*", "a01:+", "a01:51", "a01:-51", "a01:60", "a01:99", "a01:001", "a01:100", "a01:500", "a01:1;",
      "a01:1*0", "a01:1*:", "a01:1**", "a01:1*-", "a01:1*10", "a01:1*1:", "a01:1*1;9", "a ", "a01 "};
    for (String text : wrongAtTheLast) {
      Checks.due("last of " + text, text.length() - 1, errorIn(text));
      Checks.due("more behind " + text, text.length() - 1, errorIn(text + "v2;"));
    }
  }

  private static void errorPositionIsKept() {
    TabuSolver x = new TabuSolver();
    Checks.fails("none at first", NoSuchElementException.class, x::errorPosition);
    read(x, "v2;x");
    Checks.due("kept", 3, x.errorPosition());
    Checks.due("kept when asked again", 3, x.errorPosition());
    Checks.due("a good text", 1, read(x, "v2;"));
    Checks.due("is kept by a good text", 3, x.errorPosition());
    Checks.due("an unknown member", "IllegalStateException", read(x, "a09:0*1;"));
    Checks.due("is kept by a text that does not fit", 3, x.errorPosition());
    read(x, "");
    Checks.due("the last one counts", 0, x.errorPosition());
  }

  private static void readRefusesTooMuch() {
    TabuSolver x = Checks.solver(2, 2, 2, 2, 2, 2, 2, 2);
    Checks.due("eleven variables", "IllegalStateException", read(x, "v2;v2;v2;"));
    Checks.due("none of them", 8, x.count(0));
    Checks.due("the input is empty", 1, x.append('v'));
    Checks.due("ten variables", 2, read(x, "2;v2;"));
    for (int c = 0; c < 18; c++) {
      x.addConstraint(0, 3, 0, 1);
    }
    Checks.due("21 constraints", "IllegalStateException", read(x, "a01:0*1;a01:0*1;a01:0*1;"));
    Checks.due("none of them", 18, x.count(1));
    Checks.due("twenty constraints", 2, read(x, "a01:0*1;a01:0*1;"));
    Checks.due("one more", "IllegalStateException", read(x, "a01:0*1;"));
    Checks.due("eleven variables again", "IllegalStateException", read(x, "v2;"));
    Checks.due("twenty variables", "IllegalStateException", read(new TabuSolver(), "v2;".repeat(20)));
    Checks.due("refused texts are no changes", 7, x.undo());
    Checks.due("the last change is the one with two", 18, x.count(1));
  }

  private static void readRefusesUnknownMembers() {
    TabuSolver x = Checks.solver(2);
    Checks.due("before the variable", "IllegalStateException", read(x, "a01:0*1;v2;"));
    Checks.due("nothing was added", "1,0", x.count(0) + "," + x.count(1));
    Checks.due("behind the variable", 2, read(x, "v2;a01:0*1;"));
    Checks.due("an unknown one of three", "IllegalStateException", read(x, "a012:0*1;"));
    Checks.due("an unknown one of two", "IllegalStateException", read(x, "v2;a23:0*1;"));
    Checks.due("still", "2,1", x.count(0) + "," + x.count(1));
    Checks.due("no text goes before what does not fit", "IllegalArgumentException", read(x, "a29:0*1;x"));
    Checks.due("its error position", 8, x.errorPosition());
  }

  private static void fullInput() {
    TabuSolver x = new TabuSolver();
    String text = "v2;v3;v4;v5;v6;v7;v8;v2;v3;v4;" + "b0123456789:-50*9;" + "a0123:00*8;";
    Checks.due("59 characters", 59, text.length());
    Checks.due("twelve entries", 12, read(x, text));
    Checks.due("the longest text", "b0123456789:-50*9;", Checks.description(x, 0));
    String wrong = "v2;".repeat(19) + "a01";
    Checks.due("60 characters that end too early", 60, errorIn(wrong));
    Checks.due("60 characters with a wrong last one", 59, errorIn("v2;".repeat(19) + "a00"));
    Checks.due("60 characters of no text", 1, errorIn("v".repeat(60)));
  }

  private static void describe() {
    TabuSolver x = Checks.solver(2, 2, 2, 2, 2, 2, 2, 2, 2, 2);
    x.addConstraint(0, 3, 0, 1);
    x.addConstraint(5, 1023, -50, 9);
    x.addConstraint(3, 514, 7, 4);
    x.addConstraint(4, 12, 10, 2);
    Checks.due("text of 0", "a01:0*1;", Checks.description(x, 0));
    Checks.due("text of 1", "f0123456789:-50*9;", Checks.description(x, 1));
    Checks.due("text of 2", "d19:7*4;", Checks.description(x, 2));
    Checks.due("text of 3", "e23:10*2;", Checks.description(x, 3));
    Checks.due("length", 8, x.describe(0, -1));
    Checks.due("greatest length", 18, x.describe(1, -1));
    Checks.due("character", (int) 'a', x.describe(0, 0));
    Checks.due("last character", (int) ';', x.describe(0, 7));
    Checks.fails("describe(0, 8)", NoSuchElementException.class, () -> x.describe(0, 8));
    Checks.fails("describe(1, 18)", NoSuchElementException.class, () -> x.describe(1, 18));
    Checks.fails("describe(0, -2)", NoSuchElementException.class, () -> x.describe(0, -2));
    Checks.fails("describe(4, -1)", IndexOutOfBoundsException.class, () -> x.describe(4, -1));
    Checks.fails("describe(-1, 0)", IndexOutOfBoundsException.class, () -> x.describe(-1, 0));
    Checks.fails("describe(4, 99)", IndexOutOfBoundsException.class, () -> x.describe(4, 99));
  }
}
