import java.lang.reflect.Method;
import java.lang.reflect.Modifier;
import java.util.ArrayList;
import java.util.Comparator;
import java.util.List;
import java.util.Random;

/** Any arguments in any state: nothing is thrown, and the class has the document's face alone. */
public final class NeverThrowsTest {
  private static final int[] ODD = {Integer.MIN_VALUE, Integer.MIN_VALUE + 1, -65536, -3, -2, -1, 0, 1, 2, 3, 4,
    5, 6, 7, 19, 20, 21, 31, 32, 33, 40, 60, 61, 64, 99, 100, 101, 200, 400, 999, 9999, 10000, 65536,
    Integer.MAX_VALUE - 1, Integer.MAX_VALUE};
  private static final String[] TEXTS = {"show 6;road 0 5;road 3 4;gap 4;car 1 1 9;car 5 0 9", "show 3",
    "show 20;road 0 1;road 4 1;road 8 1;road 12 1;road 16 1;car 0 0 60;car 4 1 60;car 8 2 60;car 12 3 60;car 16 4 60;car 1 0 60",
    "show 3;road 0 1;road 1 1;road 2 1;car 0 0 9;car 1 1 9;car 2 2 9"};
  private static final String[] RULES = {"go 1", "go 0", "go 1 if waiting > 0 and behind < 3;go off % 2",
    "go step / waiting + 65536*65536*65536*32768 / rounds", "go 1 if not [not [fuel % 3 = 0 or on > 4]]"};

  public static void main(String[] args) throws Exception {
    List<Method> face = new ArrayList<>();
    for (Method m : LetOff.class.getDeclaredMethods()) if (!Modifier.isPrivate(m.getModifiers())) face.add(m);
    face.sort(Comparator.comparing(Method::getName));
    Due.is("public methods", face.size(), 36 - 1);
    Due.is("NONE", LetOff.NONE, -1);
    for (int run = 0; run < 300; run++) drive(face, new Random(run));
    Due.close("NeverThrowsTest");
  }

  private static void drive(List<Method> face, Random random) throws Exception {
    LetOff x = new LetOff();
    for (int k = 0; k < 512; k++) {
      if (k % 60 == 20) {
        x.end(0);
        Due.show(x, TEXTS[random.nextInt(TEXTS.length)]);
      }
      if (k % 50 == 30) {
        x.end(0);
        Due.rule(x, RULES[random.nextInt(RULES.length)]);
      }
      Method m = random.nextInt(3) == 0 ? LetOff.class.getMethod("step") : face.get(random.nextInt(face.size()));
      Object[] with = new Object[m.getParameterCount()];
      for (int i = 0; i < with.length; i++) {
        with[i] = random.nextInt(3) == 0 ? ODD[random.nextInt(ODD.length)] : random.nextInt(6);
      }
      try {
        m.invoke(x, with);
        Due.is(m.getName(), 0, 0);
      } catch (java.lang.reflect.InvocationTargetException e) {
        Due.is(m.getName() + java.util.Arrays.toString(with) + " threw " + e.getCause(), 1, 0);
      }
    }
  }
}
