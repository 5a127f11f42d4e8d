import java.lang.reflect.Method;
import java.lang.reflect.Modifier;
import java.nio.file.Files;
import java.nio.file.Path;
import java.util.regex.Matcher;
import java.util.regex.Pattern;

/** README.md shows calls with their answers: they are made here, so that the page stays true. */
public final class ReadmeTest {
  private static final Pattern CALL = Pattern.compile("x\\.(\\w+)\\(([^)]*)\\);\\s*// -> (-?\\d+).*");

  public static void main(String[] args) throws Exception {
    String page = Files.readString(Path.of("README.md"));
    String example = page.substring(page.indexOf("```java") + 7, page.indexOf("```", page.indexOf("```java") + 7));
    LetOff x = new LetOff();
    int made = 0;
    for (String line : example.split("\n")) {
      Matcher call = CALL.matcher(line);
      if (call.matches()) {
        Due.is(line.trim(), answer(x, call.group(1), call.group(2)), Integer.parseInt(call.group(3)));
        made++;
      } else {
        Due.is("a call without its answer: " + line, line.startsWith("x.") ? 1 : 0, 0);
      }
    }
    Due.is("the page shows calls", made > 0 ? 1 : 0, 1);
    everyCallIsNamed(page);
    Due.close("ReadmeTest");
  }

  private static int answer(LetOff x, String name, String list) throws Exception {
    String[] parts = list.isBlank() ? new String[0] : list.split(",");
    Class<?>[] kinds = new Class<?>[parts.length];
    Object[] with = new Object[parts.length];
    for (int k = 0; k < parts.length; k++) {
      kinds[k] = int.class;
      with[k] = Integer.decode(parts[k].trim());
    }
    return (Integer) LetOff.class.getMethod(name, kinds).invoke(x, with);
  }

  private static void everyCallIsNamed(String page) {
    for (Method m : LetOff.class.getDeclaredMethods()) {
      if (Modifier.isPublic(m.getModifiers())) {
        Due.is("the page names " + m.getName(), page.contains("`" + m.getName() + "`") ? 1 : 0, 1);
      }
    }
  }
}
