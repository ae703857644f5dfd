import java.io.IOException;
import java.nio.file.Files;
import java.nio.file.Path;
import java.util.regex.Matcher;
import java.util.regex.Pattern;

/** The rules of ../shared/LANGUAGE.md that the program's text shows by itself; .ci/run starts it in the project. */
public final class LanguageTest {
  private static final Path SOURCE = Path.of("src/main/java/TabuSolver.java");
  private static final int LONGEST_METHOD = 60;

  public static void main(String[] args) throws IOException {
    String text = Files.readString(SOURCE);
    String code = text.replaceAll("//[^\n]*", "").replaceAll("(?s)/\\*.*?\\*/", "");
    none(code, "rule 1: a package", "\\bpackage\\b");
    none(code, "rules 2 and 4: another import", "\\bimport (?!java\\.util\\.(Arrays|NoSuchElementException);)");
    none(code, "rule 2: a lambda or a method reference", "->|::");
    none(code, "rule 2: a class that is not static", "(?<!static )(?<!public )final class|(?<!final )\\bclass\\b");
    none(code, "rule 3: another type", "\\b(Object|Long|Double|Character|Map|Set|Optional|var)\\b");
    none(code, "rule 4: Exact functions", "\\w+Exact\\(");
    none(code, "rule 4: System", "\\bSystem\\.(?!arraycopy\\()");
    none(code, "rule 4: Arrays", "\\bArrays\\.(?!(fill|copyOf|copyOfRange)\\()");
    none(code, "rule 5: a static that is not final", "\\bstatic (?!final\\b)[\\w\\[\\]]+ \\w+( =|;)|\\bstatic \\{");
    none(code, "rule 6: catching and its like", "\\b(try|catch|finally|synchronized|assert|instanceof)\\b");
    none(code, "rule 6: another exception", "\\bthrow (?!new (IllegalState|IllegalArgument|IndexOutOfBounds|Arithmetic"
        + "|NoSuchElement)Exception\\(\\);)");
    none(code, "rule 6: equals and its like", "\\b(equals|hashCode|toString)\\b");
    none(code, "rule 4: signs beyond 127", "[^\\x00-\\x7f]");
    Checks.due("rule 11: at most twelve classes", true, Pattern.compile("\\bclass \\w+").split(code).length <= 13);
    methodsAreShort(text);
    Checks.finish("LanguageTest");
  }

  private static void none(String code, String rule, String pattern) {
    Matcher matcher = Pattern.compile(pattern).matcher(code);
    Checks.due(rule, "", matcher.find() ? matcher.group() : "");
  }

  /** A method begins at an indented line that ends with a brace and ends at the brace with the same indent. */
  private static void methodsAreShort(String text) {
    Matcher method = Pattern.compile("(?ms)^(  |    )(?! )[^\\n=]*\\([^\\n]*\\{\\n.*?^\\1\\}$").matcher(text);
    int methods = 0;
    while (method.find()) {
      methods++;
      String first = method.group().lines().findFirst().orElse("");
      Checks.due("rule 11: length of " + first, true, method.group().lines().count() <= LONGEST_METHOD);
    }
    Checks.due("methods were found", true, methods > 80);
  }
}
