import java.util.List;
import java.util.NoSuchElementException;

/** What the document's sentences on texts and promises 40 to 43 name as boundary cases. */
public final class TextEdgeTest {
  private static final String LETTERS = "abcdef";
  private static final String DIGITS = "0123456789";
  /** A text's beginnings, each with the characters that can follow it. */
  private static final String[][] FOLLOWING = {
      {"", "v" + LETTERS}, {"v", "2345678"}, {"v2", ";"}, {"v8", ";"}, {"v2;", "v" + LETTERS},
      {"a", "012345678"}, {"f", "012345678"}, {"a0", "123456789"}, {"a1", "23456789"}, {"a7", "89"}, {"a8", "9"},
      {"a01", "23456789:"}, {"a02", "3456789:"}, {"a08", "9:"}, {"a09", ":"}, {"f89", ":"}, {"b0123456789", ":"},
      {"c012345678", "9:"}, {"a01:", "-" + DIGITS}, {"a01:-", DIGITS}, {"a01:0", "*" + DIGITS}, {"a01:1", "*" + DIGITS},
      {"a01:4", "*" + DIGITS}, {"a01:5", "*0"}, {"a01:6", "*"}, {"a01:9", "*"}, {"a01:-0", "*" + DIGITS},
      {"a01:-4", "*" + DIGITS}, {"a01:-5", "*0"}, {"a01:-6", "*"}, {"a01:00", "*"}, {"a01:49", "*"}, {"a01:50", "*"},
      {"a01:-50", "*"}, {"a01:-00", "*"}, {"a01:0*", "123456789"}, {"a01:0*1", ";"}, {"a01:0*9", ";"},
      {"a01:0*1;", "v" + LETTERS}, {"v2;v2;a01:50*9;v8;", "v" + LETTERS}, {"v3;e19:-07*5;v", "2345678"}};

  public static void main(String[] args) {
    codes();
    sixtyCharacters();
    inputIsEmptyAfterRead();
    whatCanFollow();
    whatEndsTooEarly();
    firstErrorCounts();
    entries();
    sizesInTexts();
    kindsInTexts();
    membersInTexts();
    membersNeedNotExist();
    numbersInTexts();
    weightsInTexts();
    orderOfEntries();
    memberAddedBefore();
    allOrNothing();
    tooManyVariables();
    tooManyConstraints();
    manyEntries();
    badTextGoesFirst();
    refusedTextsLeaveTheRest();
    errorPositionIsKept();
    readBeginsTheSearch();
    readIsOneChange();
    describedNumbers();
    describedCharacters();
    describedTextsCanBeRead();
    Checks.finish("TextEdgeTest");
  }

  private static TabuSolver tenVariables() {
    return Checks.solver(2, 2, 2, 2, 2, 2, 2, 2, 2, 2);
  }

  private static Object read(TabuSolver x, String text) {
    Checks.type(x, text);
    return Checks.outcome(x::read);
  }

  /** The error position of a text on a new object, or how many entries it has. */
  private static String positionIn(String text) {
    TabuSolver x = tenVariables();
    Object answer = read(x, text);
    return answer.equals("IllegalArgumentException") ? "error at " + x.errorPosition() : "read";
  }

  private static void codes() {
    Checks.sentence("40: the character, with a code from 32 to 126");
    for (int code = 32; code <= 126; code++) {
      TabuSolver x = new TabuSolver();
      char character = (char) code;
      Checks.due("append of code " + code, 1, Checks.outcome(() -> x.append(character)));
    }
    for (int code : new int[] {0, 1, 9, 10, 13, 30, 31, 127, 128, 160, 255, 256, 288, 382, 0x8000, 0xff3b, 0xffff}) {
      TabuSolver y = new TabuSolver();
      char character = (char) code;
      Checks.fails("append of code " + code, IllegalArgumentException.class, () -> y.append(character));
      Checks.due("the input stays empty", 1, y.append('~'));
    }
  }

  private static void sixtyCharacters() {
    Checks.sentence("D, 40: The input is a buffer of at most 60 characters");
    TabuSolver x = new TabuSolver();
    for (int length = 1; length <= 60; length++) {
      Checks.due("the new length", length, x.append(length % 3 == 1 ? 'v' : length % 3 == 2 ? '2' : ';'));
    }
    Checks.fails("the 61st character", IllegalStateException.class, () -> x.append('v'));
    Checks.fails("the 61st character with a wrong code", IllegalArgumentException.class, () -> x.append('\t'));
    Checks.fails("twenty variables in sixty characters", IllegalStateException.class, x::read);
    Checks.due("the input is empty then", 1, x.append('v'));
    TabuSolver y = new TabuSolver();
    String text = "v2;v2;v2;v2;v2;v2;v2;v2;" + "b01234567:-50*9;" + "a01:05*8;c0123:7*6;";
    Checks.due("fifty-nine characters", 59, text.length());
    Checks.due("are read", 11, read(y, text));
    Checks.due("the last entry", "c0123:7*6;", Checks.description(y, 2));
    Checks.due("sixty characters", 11, read(new TabuSolver(), text.replace(":7*", ":07*")));
    Checks.sentence("D: The error position .. if there is no such index, it is the length of the text");
    Checks.due("sixty characters without an end", "error at 60", positionIn("v2;".repeat(19) + "a01"));
    Checks.due("fifty-nine characters without an end", "error at 59", positionIn("v2;".repeat(19) + "v2"));
    Checks.due("sixty characters with a wrong last one", "error at 59", positionIn("v2;".repeat(19) + "v2v"));
  }

  private static void inputIsEmptyAfterRead() {
    Checks.sentence("41: The input is empty afterwards, whatever happens");
    TabuSolver x = new TabuSolver();
    Checks.due("a text", 1, read(x, "v2;"));
    Checks.due("empty", 1, x.append('x'));
    Checks.due("no text", "IllegalArgumentException", Checks.outcome(x::read));
    Checks.due("empty", 1, x.append('a'));
    Checks.due("no such member", "IllegalStateException", read(x, "01:0*1;"));
    Checks.due("empty", 1, x.append('v'));
    Checks.due("another text", 1, read(x, "3;"));
    Checks.due("no characters", "IllegalArgumentException", Checks.outcome(x::read));
    Checks.due("empty still", 1, x.append('v'));
    Checks.due("sizes", "23", x.variable(0, 0) + "" + x.variable(1, 0));
  }

  private static void whatCanFollow() {
    Checks.sentence("D: the smallest index k such that no text of this kind starts with the first k + 1 characters of it");
    for (String[] row : FOLLOWING) {
      for (char next = 32; next <= 126; next++) {
        String text = row[0] + next;
        boolean canFollow = row[1].indexOf(next) >= 0;
        boolean isWhole = canFollow && next == ';';
        String due = isWhole ? "read" : "error at " + (canFollow ? text.length() : row[0].length());
        Checks.due("the text " + text, due, positionIn(text));
      }
    }
  }

  private static void whatEndsTooEarly() {
    Checks.sentence("D: if there is no such index, it is the length of the text");
    for (String[] row : FOLLOWING) {
      String text = row[0];
      boolean isWhole = text.endsWith(";");
      Checks.due("the text " + text, isWhole ? "read" : "error at " + text.length(), positionIn(text));
    }
    Checks.due("the empty text", "error at 0", positionIn(""));
  }

  private static void firstErrorCounts() {
    Checks.sentence("D: the smallest index k such that no text of this kind starts with the first k + 1 characters of it");
    Checks.due("two errors", "error at 1", positionIn("v9;w;"));
    Checks.due("an error behind an entry", "error at 3", positionIn("v2;;v2;"));
    Checks.due("an error behind all", "error at 9", positionIn("v2;v3;v4; "));
    Checks.due("a space ahead", "error at 0", positionIn(" v2;"));
    Checks.due("a capital letter", "error at 0", positionIn("V2;"));
    Checks.due("a plus sign", "error at 4", positionIn("a01:+1*1;"));
    Checks.due("two minus signs", "error at 5", positionIn("a01:--1*1;"));
    Checks.due("three digits", "error at 6", positionIn("a01:012*1;"));
    Checks.due("a member twice", "error at 3", positionIn("a011:0*1;"));
    Checks.due("members in descending order", "error at 2", positionIn("a10:0*1;"));
    Checks.due("one member", "error at 2", positionIn("a0:0*1;"));
    Checks.due("one member, the last digit", "error at 1", positionIn("a9:0*1;"));
  }

  private static void entries() {
    Checks.sentence("D: A text consists of one or several entries, each followed by a semicolon");
    Checks.due("none", "IllegalArgumentException", read(new TabuSolver(), ""));
    Checks.due("a semicolon alone", "IllegalArgumentException", read(new TabuSolver(), ";"));
    Checks.due("one", 1, read(new TabuSolver(), "v2;"));
    Checks.due("one without a semicolon", "IllegalArgumentException", read(new TabuSolver(), "v2"));
    Checks.due("two", 2, read(new TabuSolver(), "v2;v2;"));
    Checks.due("the second one without", "IllegalArgumentException", read(new TabuSolver(), "v2;v2"));
    Checks.due("ten", 10, read(new TabuSolver(), "v2;".repeat(10)));
  }

  private static void sizesInTexts() {
    Checks.sentence("D: v and a digit from 2 to 8, which adds a variable with this domain size");
    for (char digit = '0'; digit <= '9'; digit++) {
      TabuSolver x = new TabuSolver();
      boolean isSize = digit >= '2' && digit <= '8';
      Checks.due("v" + digit, isSize ? (Object) 1 : "IllegalArgumentException", read(x, "v" + digit + ";"));
      Checks.due("its size", isSize ? (Object) (digit - '0') : "IndexOutOfBoundsException",
          Checks.outcome(() -> x.variable(0, 0)));
    }
  }

  private static void kindsInTexts() {
    Checks.sentence("D: a letter from a to f for the kinds 0 to 5 of a constraint");
    for (int kind = -1; kind <= 6; kind++) {
      TabuSolver x = Checks.solver(2, 2);
      boolean isKind = kind >= 0 && kind <= 5;
      String text = (char) ('a' + kind) + "01:3*1;";
      Checks.due(text, isKind ? (Object) 1 : "IllegalArgumentException", read(x, text));
      Checks.due("its kind", isKind ? (Object) kind : "IndexOutOfBoundsException",
          Checks.outcome(() -> x.constraint(0, 0)));
    }
  }

  private static void membersInTexts() {
    Checks.sentence("D: the digits of its members in ascending order, at least two");
    for (int members = 0; members < 1024; members++) {
      TabuSolver x = tenVariables();
      StringBuilder text = new StringBuilder("a");
      for (int v = 0; v < 10; v++) {
        text.append((members >> v & 1) == 1 ? Integer.toString(v) : "");
      }
      text.append(":0*1;");
      boolean areTwo = Integer.bitCount(members) >= 2;
      Checks.due(text.toString(), areTwo ? (Object) 1 : "IllegalArgumentException", read(x, text.toString()));
      if (areTwo) {
        Checks.due("its members", members, x.constraint(0, 1));
        Checks.due("its text", text.toString(), Checks.description(x, 0));
      }
    }
  }

  private static void membersNeedNotExist() {
    Checks.sentence("D: The members need not exist for a text to be like this");
    TabuSolver x = Checks.solver(2, 2);
    Checks.due("a member that does not exist", "IllegalStateException", read(x, "a02:0*1;"));
    Checks.due("two that do not exist", "IllegalStateException", read(x, "a89:0*1;"));
    Checks.fails("there was no error", NoSuchElementException.class, x::errorPosition);
    Checks.due("members that exist", 1, read(x, "a01:0*1;"));
    Checks.due("constraints", 1, x.count(1));
  }

  private static void numbersInTexts() {
    Checks.sentence("D: the number with one or two digits and an optional minus sign before them, at most 50");
    for (int number = 0; number <= 99; number++) {
      for (String sign : List.of("", "-")) {
        String twoDigits = (number < 10 ? "0" : "") + number;
        Checks.sentence("D: Numbers in a text can have leading zeros, and a minus sign before 0");
        numberInText(sign + twoDigits, sign.isEmpty() ? number : -number);
        if (number < 10) {
          numberInText(sign + number, sign.isEmpty() ? number : -number);
        }
      }
    }
    numberInText("100", 100);
    numberInText("-100", -100);
    numberInText("005", 100);
    numberInText("", 100);
    numberInText("-", 100);
  }

  private static void numberInText(String text, int number) {
    TabuSolver x = Checks.solver(2, 2);
    boolean isNumber = number >= -50 && number <= 50;
    Object due = isNumber ? (Object) 1 : "IllegalArgumentException";
    Checks.due("the number " + text, due, read(x, "c01:" + text + "*1;"));
    Checks.due("its value", isNumber ? (Object) number : "IndexOutOfBoundsException",
        Checks.outcome(() -> x.constraint(0, 2)));
  }

  private static void weightsInTexts() {
    Checks.sentence("D: a digit from 1 to 9 for the weight");
    for (char digit = '0'; digit <= '9'; digit++) {
      TabuSolver x = Checks.solver(2, 2);
      boolean isWeight = digit >= '1';
      Object due = isWeight ? (Object) 1 : "IllegalArgumentException";
      Checks.due("the weight " + digit, due, read(x, "a01:0*" + digit + ";"));
      Checks.due("cost", isWeight ? digit - '0' : 0, x.cost());
    }
    Checks.due("two digits", "IllegalArgumentException", read(Checks.solver(2, 2), "a01:0*10;"));
    Checks.due("a minus sign", "IllegalArgumentException", read(Checks.solver(2, 2), "a01:0*-1;"));
  }

  private static void orderOfEntries() {
    Checks.sentence("41: Adds the variables and constraints of the text in the input, in their order");
    TabuSolver x = Checks.solver(8, 7);
    x.addConstraint(5, 3, 4, 3);
    Checks.due("five entries", 5, read(x, "v3;a02:1*2;v5;b13:-2*4;e0123:3*6;"));
    Checks.due("sizes", "8735", "" + x.variable(0, 0) + x.variable(1, 0) + x.variable(2, 0) + x.variable(3, 0));
    Checks.due("the first one stays", "f01:4*3;", Checks.description(x, 0));
    Checks.due("the second one", "a02:1*2;", Checks.description(x, 1));
    Checks.due("the third one", "b13:-2*4;", Checks.description(x, 2));
    Checks.due("the fourth one", "e0123:3*6;", Checks.description(x, 3));
    Checks.due("constraints", 4, x.count(1));
  }

  private static void memberAddedBefore() {
    Checks.sentence("41: or a member does not exist when its constraint is added");
    Checks.due("added right before", 3, read(new TabuSolver(), "v2;v2;a01:0*1;"));
    Checks.due("added right after", "IllegalStateException", read(new TabuSolver(), "v2;a01:0*1;v2;"));
    TabuSolver x = Checks.solver(2, 2, 2, 2, 2, 2, 2, 2, 2);
    Checks.due("the tenth one after", "IllegalStateException", read(x, "a09:0*1;v2;"));
    Checks.due("the tenth one before", 2, read(x, "v2;a09:0*1;"));
    Checks.due("its constraint", "a09:0*1;", Checks.description(x, 0));
  }

  private static void allOrNothing() {
    Checks.sentence("41: or none of them");
    TabuSolver x = Checks.solver(3, 3);
    Checks.due("wrong at the end", "IllegalArgumentException", read(x, "v2;a01:0*1;v2;a01:0*1;v9;"));
    Checks.due("no end", "IllegalArgumentException", read(x, "v2;a01:0*1;v2"));
    Checks.due("no member at the end", "IllegalStateException", read(x, "v2;a01:0*1;v2;a05:0*1;"));
    Checks.due("variables", 2, x.count(0));
    Checks.due("constraints", 0, x.count(1));
    Checks.due("changes", 1, x.undo());
  }

  private static void tooManyVariables() {
    Checks.sentence("41: Throws IllegalStateException if there would be more than 10 variables");
    for (int before = 0; before <= 10; before++) {
      for (int added = 1; added <= 11; added++) {
        TabuSolver x = new TabuSolver();
        for (int v = 0; v < before; v++) {
          x.addVariable(2);
        }
        boolean fits = before + added <= 10;
        Object due = fits ? (Object) added : "IllegalStateException";
        Checks.due(added + " more than " + before, due, read(x, "v3;".repeat(added)));
        Checks.due("variables then", fits ? before + added : before, x.count(0));
      }
    }
  }

  private static void tooManyConstraints() {
    Checks.sentence("41: Throws IllegalStateException if there would be more than .. 20 constraints");
    for (int before = 15; before <= 20; before++) {
      for (int added = 1; added <= 6; added++) {
        TabuSolver x = Checks.solver(2, 2);
        for (int c = 0; c < before; c++) {
          x.addConstraint(0, 3, 0, 1);
        }
        boolean fits = before + added <= 20;
        Object due = fits ? (Object) added : "IllegalStateException";
        Checks.due(added + " more than " + before, due, read(x, "e01:1*2;".repeat(added)));
        Checks.due("constraints then", fits ? before + added : before, x.count(1));
      }
    }
  }

  private static void manyEntries() {
    Checks.sentence("41: Throws IllegalStateException if there would be more than 10 variables");
    Checks.due("twenty entries", "IllegalStateException", read(new TabuSolver(), "v2;".repeat(20)));
    TabuSolver x = Checks.solver(2, 2);
    for (int round = 1; round <= 3; round++) {
      Checks.due("six constraints", 6, read(x, "a01:0*1;".repeat(6)));
    }
    Checks.due("eight variables in a full object", 8, read(x, "v2;".repeat(8)));
    Checks.due("two constraints", 2, read(x, "f0123456789:50*9;e0123456789:-50*9;"));
    Checks.due("it is full", "10 20", x.count(0) + " " + x.count(1));
    Checks.due("a constraint more", "IllegalStateException", read(x, "a01:0*1;"));
    Checks.due("a variable more", "IllegalStateException", read(x, "v2;"));
  }

  private static void badTextGoesFirst() {
    Checks.sentence("41, D: If several exceptions apply, the one that is documented first is thrown");
    TabuSolver x = Checks.solver(2, 2);
    Checks.due("no member, then no text", "IllegalArgumentException", read(x, "a09:0*1;v"));
    Checks.due("its position", 9, x.errorPosition());
    Checks.due("too many variables, then no text", "IllegalArgumentException", read(x, "v2;".repeat(9) + "w"));
    Checks.due("its position then", 27, x.errorPosition());
    TabuSolver full = Samples.full();
    Checks.outcome(full::read);
    Checks.due("no text when it is full", "IllegalArgumentException", read(full, "v1;"));
    Checks.due("a text when it is full", "IllegalStateException", read(full, "v2;"));
    Checks.due("the position stays", 1, full.errorPosition());
  }

  /** The lines of a portrait that do not depend on the input or the error position. */
  private static List<String> withoutInput(List<String> lines) {
    return lines.stream().filter(line -> !line.matches("(after )?(read|append|error position).*")).toList();
  }

  private static void refusedTextsLeaveTheRest() {
    Checks.sentence("41, D: A method that throws an exception leaves the state unchanged, unless its documentation ..");
    for (String text : new String[] {";", ";v2;v9;", ";x", ";a01:0*1;a09:0*1;", ";v2;v2;v2;v2;v2;v2;v2;"}) {
      List<String> ahead = withoutInput(Portrait.of(Samples::ordinary));
      Checks.due("the portrait is not empty", true, ahead.size() > 100);
      boolean isRefused = !text.equals(";");
      List<String> then = withoutInput(Portrait.after(Samples::ordinary, x -> read(x, text)));
      Checks.due("v5" + text + " leaves the state", isRefused, Portrait.difference(ahead, then).isEmpty());
    }
    List<String> full = withoutInput(Portrait.of(Samples::full));
    List<String> then = withoutInput(Portrait.after(Samples::full, TabuSolver::read));
    Checks.due("twenty variables leave the full state", "", Portrait.difference(full, then));
    TabuSolver x = new TabuSolver();
    Checks.outcome(x::read);
    Checks.due("an empty text leaves the history", "NoSuchElementException", Checks.outcome(x::undo));
  }

  private static void errorPositionIsKept() {
    Checks.sentence("41, 42: the error position is then kept; Returns the error position that was kept last");
    TabuSolver x = new TabuSolver();
    Checks.fails("none at first", NoSuchElementException.class, x::errorPosition);
    read(x, "v2;");
    Checks.fails("none after a text", NoSuchElementException.class, x::errorPosition);
    read(x, "a09:0*1;");
    Checks.fails("none after a text that does not fit", NoSuchElementException.class, x::errorPosition);
    read(x, "v2;v2;q");
    Checks.due("the first one", 6, x.errorPosition());
    Checks.due("asked again", 6, x.errorPosition());
    read(x, "v2;");
    Checks.due("after a text", 6, x.errorPosition());
    read(x, "a09:0*1;");
    Checks.due("after a text that does not fit", 6, x.errorPosition());
    x.undo();
    x.save();
    x.restore();
    x.clear();
    Checks.due("after undo, restore and clear", 6, x.errorPosition());
    Checks.outcome(x::read);
    Checks.due("the last one is that of the empty text", 0, x.errorPosition());
    read(x, "v");
    Checks.due("the last one", 1, x.errorPosition());
  }

  private static void readBeginsTheSearch() {
    Checks.sentence("D: The search begins whenever a variable or constraint is added");
    for (String text : List.of(";", ";a01:0*1;")) {
      TabuSolver x = Samples.ordinary();
      read(x, text);
      String numbers = x.search(0) + " " + x.search(1) + " " + x.search(2) + " " + x.search(4) + " " + x.logSize();
      Checks.due("numbers", "0 0 0 0 0", numbers);
      Checks.due("best values", Checks.values(x), Checks.bestValues(x));
      Checks.due("best cost", x.cost(), x.bestCost());
      Checks.due("nothing is held", 0, x.moves(true));
      Checks.due("values stay, new ones are 0", "0410", Checks.values(x));
    }
  }

  private static void readIsOneChange() {
    Checks.sentence("D: A change is a call of .. read that returns without an exception");
    TabuSolver x = Checks.withValues(Checks.solver(4, 4), 3, 2);
    read(x, "v3;a012:0*1;v4;b03:2*2;");
    read(x, "v9;");
    read(x, "a09:1*1;");
    Checks.due("undo of the text", 2, x.undo());
    Checks.due("all its entries are gone", "2 0", x.count(0) + " " + x.count(1));
    Checks.due("values", "32", Checks.values(x));
  }

  private static void describedNumbers() {
    Checks.sentence("43: with its semicolon and without leading zeros");
    int[] numbers = {-50, -49, -11, -10, -9, -1, 0, 1, 9, 10, 11, 49, 50};
    for (int number : numbers) {
      for (int kind = 0; kind <= 5; kind++) {
        TabuSolver x = tenVariables();
        x.addConstraint(kind, 1 << kind | 1 << 9, number, kind + 4);
        String due = "abcdef".charAt(kind) + "" + kind + "9:" + number + "*" + (kind + 4) + ";";
        Checks.due("text", due, Checks.description(x, 0));
        Checks.due("its length", due.length(), x.describe(0, -1));
      }
    }
    TabuSolver y = Checks.solver(2, 2);
    read(y, "c01:-00*1;d01:007*1;");
    read(y, "c01:-00*1;d01:-07*1;");
    Checks.due("no minus sign before 0", "c01:0*1;", Checks.description(y, 0));
    Checks.due("no leading zero", "d01:-7*1;", Checks.description(y, 1));
  }

  private static void describedCharacters() {
    Checks.sentence("43: the index of the character, from 0, or -1 for the length");
    TabuSolver x = tenVariables();
    x.addConstraint(0, 3, 0, 1);
    x.addConstraint(1, 1023, -50, 9);
    String[] texts = {"a01:0*1;", "b0123456789:-50*9;"};
    for (int c = 0; c < 2; c++) {
      int constraint = c;
      int length = texts[c].length();
      Checks.due("length", length, x.describe(c, -1));
      for (int i = 0; i < length; i++) {
        Checks.due("character " + i, (int) texts[c].charAt(i), x.describe(c, i));
      }
      for (int index : new int[] {-2, length, length + 1, Integer.MAX_VALUE, Integer.MIN_VALUE}) {
        Class<NoSuchElementException> missing = NoSuchElementException.class;
        Checks.fails("describe of " + index, missing, () -> x.describe(constraint, index));
      }
    }
    Checks.due("the shorter one after the longer one", 8, x.describe(0, -1));
    Checks.fails("its ninth character", NoSuchElementException.class, () -> x.describe(0, 8));
  }

  private static void describedTextsCanBeRead() {
    Checks.sentence("43: a character of the text of a constraint");
    for (int c = 0; c < 20; c++) {
      TabuSolver x = Samples.full();
      TabuSolver y = tenVariables();
      String text = Checks.description(x, c);
      Checks.due("read of " + text, 1, read(y, text));
      for (int what = 0; what < 4; what++) {
        Checks.due("part " + what + " of " + text, x.constraint(c, what), y.constraint(0, what));
      }
    }
  }
}
