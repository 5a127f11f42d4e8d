import java.nio.file.Files;
import java.nio.file.Path;
import java.util.regex.Matcher;
import java.util.regex.Pattern;

/** The rules of LANGUAGE.md that can be seen in the text of LetOff.java. Its argument is that file. */
public final class LanguageTest {
  public static void main(String[] args) throws Exception {
    String whole = Files.readString(Path.of(args.length > 0 ? args[0] : "src/main/java/LetOff.java"));
    String text = whole.replaceAll("(?s)/\\*.*?\\*/", "").replaceAll("//[^\n]*", "").replaceAll("'[^']'", "0").replaceAll("\"[^\"]*\"", "Q");
    none(text, "throw", "\\bthrows?\\b");
    none(text, "try, catch, finally", "\\b(try|catch|finally)\\b");
    none(text, "synchronized, assert", "\\b(synchronized|assert|volatile|native|transient)\\b");
    none(text, "lambda or method reference", "->|::");
    none(text, "package line", "\\bpackage\\b");
    none(text, "protected", "\\bprotected\\b");
    none(text, "Exact", "Exact\\b");
    none(text, "endless loop", "while\\s*\\(true\\)|for\\s*\\(;;\\)");
    none(text, "joined text", "Q\\s*\\+|\\+\\s*Q");
    none(text, "static block", "static\\s*\\{");
    none(text, "static field that can change", "static\\s+(?!final|class)\\w+(\\[\\])*\\s+\\w+\\s*(=|;)");
    none(text, "inner class that isn't static", "private\\s+(final\\s+)?class");
    none(text, "an import but Arrays, ArrayList, List", "import (?!java\\.util\\.(Arrays|ArrayList|List);)");
    none(whole, "signs beyond 127", "[^\\x00-\\x7f]");
    Due.is("at most twelve classes", many(text, "\\bclass\\b") <= 12 ? 1 : 0, 1);
    none(text, "library call but those listed", "\\b(Integer|Long|Math|Arrays|System)\\.(?!(bitCount|min|max|floorMod|fill|copyOf|arraycopy)\\()");
    none(text, "method of more than seven parameters", "\\w \\w+\\((\\w+(\\[\\])* \\w+,\\s*){7}");
    none(text, "float, double or boxed number", "\\b(float|double|Float|Double|Short|Byte|Character|Boolean)\\b");
    none(text, "equals, hashCode or toString", "\\b(equals|hashCode|toString)\\b");
    privateNames(text);
    longMethods(text);
    manyFields(text);
    Due.close("LanguageTest");
  }

  private static int many(String text, String pattern) {
    int n = 0;
    for (Matcher m = Pattern.compile(pattern).matcher(text); m.find(); ) n++;
    return n;
  }

  private static void none(String text, String what, String pattern) { Due.is("no " + what, many(text, pattern), 0); }

  private static void privateNames(String text) {
    Matcher m = Pattern.compile("public (?:static )?(?:int|final class) (\\w+)\\(").matcher(text);
    while (m.find()) {
      Due.is("one method of the name " + m.group(1), many(text, "\\b(int|long|void|boolean|Round|Rule|Plan)(\\[\\])? " + m.group(1) + "\\("), 1);
    }
  }

  private static void longMethods(String text) {
    String[] lines = text.split("\n");
    int open = -1;
    for (int k = 0; k < lines.length; k++) {
      if (lines[k].matches(" {4,8}(?! )[^=;]*\\) \\{")) open = k;
      if (open >= 0 && lines[k].matches(" {4,8}\\}")) {
        Due.is("at most 60 lines: " + lines[open].trim(), k - open <= 60 ? 1 : 0, 1);
        open = -1;
      }
    }
  }

  /** Fields stand four signs deep in LetOff, eight deep in the classes inside it. */
  private static void manyFields(String text) {
    String field = "(private )?(final )?\\w+(\\[\\])? \\w+( = [^;]*)?;";
    Due.is("LetOff has at most twenty fields", many(text, "(?m)^ {4}" + field) <= 20 ? 1 : 0, 1);
    String[] inside = text.split("private static final class ");
    for (int k = 1; k < inside.length; k++) {
      int fields = many(inside[k], "(?m)^ {8}" + field);
      Due.is("at most twenty fields: " + inside[k].split("\\W")[0], fields <= 20 ? 1 : 0, 1);
    }
  }
}
