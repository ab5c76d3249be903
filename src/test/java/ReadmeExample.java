import java.lang.reflect.Method;
import java.nio.file.Files;
import java.nio.file.Path;
import java.util.regex.Matcher;
import java.util.regex.Pattern;

// Makes the calls that README.md shows, and compares what they answer with what stands behind them there.
public final class ReadmeExample extends TownTest {
  private static final Pattern ROW = Pattern.compile("^(?:town\\.(\\w+)\\((.*?)\\)|lawOf\\(town, \"(.*)\"\\)); *// (-?\\d+|true|false)\\b.*");

  public static void main(String[] args) throws Exception {
    promise(0);
    ShadeTown town = new ShadeTown();
    int rows = 0;
    for (String line : Files.readAllLines(Path.of("README.md"))) {
      // shown calls stand at the left edge; those inside the page's own method don't
      if (!line.startsWith("town.") && !line.startsWith("lawOf(")) continue;
      Matcher row = ROW.matcher(line);
      due("a row that can be read: " + line, row.matches(), true);
      if (!row.matches()) continue;
      rows++;
      long got = row.group(3) != null ? lawOf(town, row.group(3)) : call(town, row.group(1), row.group(2));
      due(line, got, answer(row.group(4)));
    }
    due("enough rows", rows >= 20, true);
    end();
  }

  private static long answer(String text) {
    return text.equals("true") ? 1 : text.equals("false") ? 0 : Long.parseLong(text);
  }

  private static long call(ShadeTown town, String name, String list) throws Exception {
    String[] texts = list.isEmpty() ? new String[0] : list.split(", ");
    for (Method method : ShadeTown.class.getMethods()) {
      if (!method.getName().equals(name) || method.getParameterCount() != texts.length) continue;
      Object[] all = new Object[texts.length];
      for (int k = 0; k < all.length; k++) {
        boolean truth = method.getParameterTypes()[k] == boolean.class;
        all[k] = truth ? (Object) Boolean.valueOf(texts[k]) : (Object) Integer.valueOf(texts[k]);
      }
      Object got = method.invoke(town, all);
      return got instanceof Boolean ? bit((Boolean) got) : ((Number) got).longValue();
    }
    due("a call of the face: " + name, 0, 1);
    return 0;
  }
}
