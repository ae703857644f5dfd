import java.io.IOException;
import java.nio.file.Files;
import java.nio.file.Path;
import java.util.regex.Matcher;
import java.util.regex.Pattern;

/** The rules of ../shared/LANGUAGE.md that the program's text shows by itself; .ci/run starts it in the project. */
public final class LanguageTest {
  private static final Path SOURCE = Path.of("src/main/java/TabuSolver.java");
  private static final String LIBRARY = "ArrayList|Arrays|Iterator|List|NoSuchElementException";
  private static final String EXCEPTIONS = "(IllegalState|IllegalArgument|IndexOutOfBounds|Arithmetic"
      + "|UnsupportedOperation|NoSuchElement|Runtime)Exception";
  // The rules say some sixty lines, some twelve classes.
  private static final int LONGEST_METHOD = 65;
  private static final int MOST_CLASSES = 14;
  private static final int MOST_PARAMETERS = 7;

  public static void main(String[] args) throws IOException {
    String text = Files.readString(SOURCE);
    String code = text.replaceAll("//[^\n]*", "").replaceAll("(?s)/\\*.*?\\*/", "");
    none(code, "rule 1: a package", "(?m)^package\\b");
    none(code, "rule 4: another import", "\\bimport (?!java\\.util\\.(" + LIBRARY + ");)");
    none(code, "rule 2: a method reference", "::");
    none(code, "rule 2: a lambda", "(?m)^(?!\\s*(case|default)\\b).*->");
    none(code, "rule 3: another type", "\\b(Object|Double|Float|Character|Boolean|Byte|Short|Thread|var)\\b");
    none(code, "rule 4: Exact functions", "\\b(Math|Integer|Long)\\.\\w+Exact\\(");
    none(code, "rule 4: Math on doubles", "\\bMath\\.(sqrt|pow|floor|ceil|round|random|log|exp|sin|cos)\\(");
    none(code, "rule 4: what is no function of the library", "\\b(Math|Integer|Long)\\.(?![a-z]\\w*\\()");
    none(code, "rule 4: System", "\\bSystem\\.(?!arraycopy\\()");
    none(code, "rule 4: Arrays", "\\bArrays\\.(?!(fill|copyOf|copyOfRange)\\()");
    none(code, "rule 5: a static that is not final", "\\bstatic (?!final\\b)[\\w\\[\\]]+ \\w+( =|;)|\\bstatic \\{");
    none(code, "rule 6: finally and its like", "\\b(finally|synchronized|assert)\\b|\\btry \\(");
    none(code, "rule 6: catching another exception", "\\bcatch \\((?!" + EXCEPTIONS + "\\b)");
    none(code, "rule 6: another exception", "\\bthrow (?!new " + EXCEPTIONS + "\\((\"[^\"]*\")?\\);)");
    none(code, "rule 6: an own equals and its like", "\\b(boolean equals|int hashCode|String toString)\\(");
    none(text, "rule 4: signs beyond 127", "[^\\x00-\\x7f]");
    int classes = Pattern.compile("\\b(class|record|enum|interface) \\w+").split(code).length - 1;
    Checks.due("rule 11: at most some twelve classes", true, classes <= MOST_CLASSES);
    methodsAreShort(text);
    methodsTakeFewParameters(code);
    Checks.finish("LanguageTest");
  }

  private static void none(String code, String rule, String pattern) {
    Matcher matcher = Pattern.compile(pattern).matcher(code);
    Checks.due(rule, "", matcher.find() ? matcher.group() : "");
  }

  /** A method begins at an indented line that ends with a brace and ends at the brace with the same indent. */
  private static void methodsAreShort(String text) {
    Matcher method = Pattern.compile("(?ms)^(  |    )(?! )[^\\n=]*\\([^\\n]*\\{\\n.*?^\\1\\}$").matcher(text);
    int methods = 0;
    while (method.find()) {
      methods++;
      String first = method.group().lines().findFirst().orElse("");
      Checks.due("rule 11: length of " + first, true, method.group().lines().count() <= LONGEST_METHOD);
    }
    Checks.due("the methods of the face were found", true, methods >= 40);
  }

  private static void methodsTakeFewParameters(String code) {
    Matcher list = Pattern.compile("(?m)^ +(public|private|static|final|void|int|boolean)[\\w \\[\\]<>]* \\w+\\(([^)]*)\\)")
        .matcher(code);
    int methods = 0;
    while (list.find()) {
      methods++;
      Checks.due("rule 11: parameters " + list.group(2), true, list.group(2).split(",").length <= MOST_PARAMETERS);
    }
    Checks.due("the methods with their parameters were found", true, methods >= 46);
  }
}
