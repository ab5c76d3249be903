import java.lang.reflect.Array;
import java.lang.reflect.Constructor;
import java.lang.reflect.Field;
import java.lang.reflect.Method;
import java.lang.reflect.Modifier;
import java.nio.file.Files;
import java.nio.file.Path;
import java.util.ArrayList;
import java.util.IdentityHashMap;
import java.util.List;
import java.util.Map;
import java.util.TreeSet;
import java.util.regex.Matcher;
import java.util.regex.Pattern;

// What can be seen of ../shared/LANGUAGE.md from outside: the face, words that may not stand in the text, the room of an object.
public final class ShadeTownRules {
  private static int wrong = 0;

  private static final String[] FACE = {
    "int feed(int,int,int,int,int)", "int law(int)", "int caster(int,int,int,int,int)", "int awning(int,int,int,int,int)",
    "boolean down(int)", "boolean move(int,int,int)", "boolean season(int)", "int casterIs(int,int)", "int sun(int,int)",
    "int shade(int,int,int)", "int price(int,int,int)", "int cast(int,int)", "long led(int,int)", "int longest(int,int,int)",
    "int donkey(int)", "int strip(int,int,int)", "int walk(int,int,int,int)", "boolean buyer(int,int,int)",
    "int worth(int,int,int,int)", "int sale(int,int,int)", "boolean wish(int,int,int,int,int,boolean,int)", "int kept(int)",
    "int happy()", "int storey(int,int)", "int bestAwning(int,int)", "int hat(int,int,int,int)", "int takenDown()",
    "int noon(int,int)", "int years(int)", "int days(int)", "int purse(int)", "long odds(int,int,int)", "boolean seed(int)",
    "int keep()", "boolean undo()", "int check(int,int,int)", "int count(int)"};

  private static void must(boolean so, String what) {
    if (!so) {
      wrong++;
      System.out.println("not so: " + what);
    }
  }

  public static void main(String[] args) throws Exception {
    face();
    words();
    room();
    System.out.println(wrong == 0 ? "the rules are kept" : wrong + " rules are not kept");
    if (wrong != 0) System.exit(1);
  }

  private static String sign(Method m) {
    StringBuilder text = new StringBuilder(m.getReturnType().getName() + " " + m.getName() + "(");
    for (Class<?> p : m.getParameterTypes()) {
      text.append(text.charAt(text.length() - 1) == '(' ? "" : ",").append(p.getName());
    }
    return text.append(")").toString();
  }

  private static void face() {
    Class<?> town = ShadeTown.class;
    must(Modifier.isPublic(town.getModifiers()) && Modifier.isFinal(town.getModifiers()), "public and final");
    TreeSet<String> due = new TreeSet<>(List.of(FACE));
    TreeSet<String> is = new TreeSet<>();
    TreeSet<String> names = new TreeSet<>();
    for (Method m : town.getDeclaredMethods()) {
      if (Modifier.isPrivate(m.getModifiers())) continue;
      must(Modifier.isPublic(m.getModifiers()) && !Modifier.isStatic(m.getModifiers()), "public: " + m);
      is.add(sign(m));
      names.add(m.getName());
    }
    must(due.equals(is), "the methods of the face: " + is);
    for (Field f : town.getDeclaredFields()) {
      must(Modifier.isPrivate(f.getModifiers()) || f.getName().equals("NONE"), "private: " + f);
    }
    Constructor<?>[] made = town.getDeclaredConstructors();
    must(made.length == 1 && made[0].getParameterCount() == 0 && Modifier.isPublic(made[0].getModifiers()), "one constructor");
    must(town.getDeclaredClasses().length <= 12, "at most twelve classes");
    List<Class<?>> all = new ArrayList<>(List.of(town.getDeclaredClasses()));
    all.add(town);
    for (Class<?> c : all) {
      must(c == town || Modifier.isStatic(c.getModifiers()), "static: " + c);
      int fields = 0;
      for (Field f : c.getDeclaredFields()) {
        boolean isStatic = Modifier.isStatic(f.getModifiers());
        must(!isStatic || Modifier.isFinal(f.getModifiers()), "final: " + f);
        fields += isStatic ? 0 : 1;
      }
      must(fields <= 20, "at most twenty fields: " + c);
      for (Method m : c.getDeclaredMethods()) {
        must(m.getParameterCount() <= 7, "at most seven parameters: " + m);
        must(Modifier.isPublic(m.getModifiers()) || !names.contains(m.getName()), "a name of the face: " + m);
      }
    }
  }

  private static void words() throws Exception {
    String text = Files.readString(Path.of("src/main/java/ShadeTown.java"));
    String bare = text.replaceAll("(?s)/\\*.*?\\*/", "").replaceAll("//.*", "").replaceAll("\"[^\"\n]*\"", "\"\"");
    String[] never = {"\\bthrow\\b", "\\bthrows\\b", "\\btry\\b", "\\bcatch\\b", "\\bfinally\\b", "\\bsynchronized\\b", "\\bassert\\b",
        "->", "::", "Exact\\b", "\\bpackage\\b", "\\bprotected\\b", "\\bvar\\b", "\\bObject\\b", "\\bRandom\\b", "\\bThread\\b",
        "currentTimeMillis", "nanoTime", "hashCode", "toString", "\"\\s*\\+", "\\+\\s*\"", "while\\s*\\(true\\)", "for\\s*\\(;;\\)"};
    for (String word : never) {
      Matcher found = Pattern.compile(word).matcher(bare);
      must(!found.find(), "never: " + word);
    }
    for (String line : bare.split("\n")) {
      must(!line.startsWith("import ") || line.equals("import java.util.Arrays;"), line);
      must(line.length() <= 125, "a long line: " + line);
      // all rows are made with the object, none in a call
      must(!line.contains("new ") || line.trim().startsWith("private ") || line.trim().startsWith("final "), "made in a call: " + line);
    }
    for (int k = 0; k < text.length(); k++) {
      must(text.charAt(k) < 128, "a sign beyond 127 at " + k);
    }
  }

  private static void room() throws Exception {
    Map<Object, Boolean> seen = new IdentityHashMap<>();
    List<Object> left = new ArrayList<>();
    ShadeTown town = new ShadeTown();
    left.add(town);
    seen.put(town, true);
    int cells = 0;
    while (!left.isEmpty()) {
      Object o = left.remove(left.size() - 1);
      if (o.getClass().isArray()) {
        cells += Array.getLength(o);
        continue;
      }
      for (Field f : o.getClass().getDeclaredFields()) {
        if (Modifier.isStatic(f.getModifiers())) continue;
        cells++;
        f.setAccessible(true);
        if (f.getType().isPrimitive()) continue;
        Object next = f.get(o);
        if (next != null && seen.put(next, true) == null) left.add(next);
      }
    }
    // 512 objects of a run must find room beside one another
    must(seen.size() < 600000 / 512, "objects: " + seen.size());
    must(cells < 7300000 / 512, "fields and elements: " + cells);
    System.out.println("an object has " + seen.size() + " objects and arrays, " + cells + " fields and elements");
  }
}
