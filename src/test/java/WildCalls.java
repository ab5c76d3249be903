import java.lang.reflect.InvocationTargetException;
import java.lang.reflect.Method;
import java.lang.reflect.Modifier;
import java.util.Arrays;
import java.util.Comparator;
import java.util.List;
import java.util.Random;

// Every call of the face with numbers from all over the ints: nothing throws, what is refused changes nothing, what is only asked
// changes nothing, and twins answer alike.
public final class WildCalls extends TownTest {
  private static final int[] NUMBERS = {LEAST, LEAST + 1, -65536, -1001, -256, -145, -100, -24, -13, -12, -3, -2, -1, 0, 1, 2, 3, 4, 5, 6, 7, 8, 9, 10,
      11, 12, 13, 15, 16, 17, 18, 23, 24, 25, 30, 31, 60, 61, 98, 99, 100, 143, 144, 145, 240, 241, 255, 256, 260, 65535, 65536, 1 << 24, 1 << 29,
      1 << 30, MOST - 1, MOST};
  // calls that change something when they are taken
  private static final List<String> CHANGE = List.of("feed", "law", "caster", "awning", "down", "move", "season", "buyer", "wish", "years", "days",
      "seed", "keep", "undo", "check");

  public static void main(String[] args) throws Exception {
    Method[] face = face();
    Maker[] makers = {ShadeTown::new, TownTest::whole, TownTest::full, TownTest::corners};
    Random random = new Random(38);
    for (Method method : face) {
      says(0, "A call that is refused (NONE, false) changes nothing; no call throws: " + method.getName());
      for (int k = 0; k < 120; k++) {
        once(method, makers[k % makers.length], arguments(method, random, k % 3 == 0));
      }
    }
    for (int seed = 1; seed <= 40; seed++) {
      says(0, "run " + seed);
      run(face, new Random(seed));
    }
    end();
  }

  private static Method[] face() {
    Method[] face = Arrays.stream(ShadeTown.class.getDeclaredMethods()).filter(m -> Modifier.isPublic(m.getModifiers())).toArray(Method[]::new);
    Arrays.sort(face, Comparator.comparing(Method::getName));
    return face;
  }

  private static Object[] arguments(Method method, Random random, boolean tame) {
    Class<?>[] types = method.getParameterTypes();
    Object[] all = new Object[types.length];
    for (int k = 0; k < all.length; k++) {
      int number = tame ? random.nextInt(13) : NUMBERS[random.nextInt(NUMBERS.length)];
      all[k] = types[k] == boolean.class ? (Object) random.nextBoolean() : (Object) number;
    }
    return all;
  }

  private static long call(Method method, ShadeTown x, Object[] all) throws Exception {
    try {
      Object answer = method.invoke(x, all);
      return answer instanceof Boolean ? bit((Boolean) answer) : ((Number) answer).longValue();
    } catch (InvocationTargetException thrown) {
      due(method.getName() + Arrays.toString(all) + " threw " + thrown.getCause(), 1, 0);
      return 0;
    }
  }

  private static boolean isRefused(Method method, long answer) {
    if (method.getReturnType() == boolean.class) return answer == 0;
    switch (method.getName()) {
      case "caster":
        return answer == NONE || answer == -2;
      case "check":
        return answer == -2;
      case "keep":
        return false;
      default:
        return answer == NONE;
    }
  }

  private static void once(Method method, Maker maker, Object[] all) throws Exception {
    ShadeTown asked = maker.make();
    long answer = call(method, asked, all);
    if (!CHANGE.contains(method.getName()) || isRefused(method, answer)) {
      sameAs(method.getName() + Arrays.toString(all), asked, maker.make());
    }
  }

  private static void run(Method[] face, Random random) throws Exception {
    ShadeTown one = random.nextBoolean() ? whole() : corners();
    ShadeTown other = new ShadeTown();
    ShadeTown third = new ShadeTown();
    for (int k = 0; k < 450; k++) {
      Method method = face[random.nextInt(face.length)];
      Object[] all = arguments(method, random, random.nextInt(4) > 0);
      call(method, one, all);
      due(method.getName() + Arrays.toString(all), call(method, other, all), call(method, third, all));
    }
  }
}
