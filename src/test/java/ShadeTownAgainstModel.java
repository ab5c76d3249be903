import java.util.ArrayList;
import java.util.Arrays;
import java.util.List;
import java.util.Random;

// Drawn runs of calls on the class and on a slow model that follows the document's words:
// texts are walked sign by sign, sets are tried one after another, nothing is kept between two calls.
public final class ShadeTownAgainstModel {
  private static int wrong = 0;

  public static void main(String[] args) {
    for (int seed = 1; seed <= 400 && wrong < 10; seed++) {
      run(new Random(seed), seed);
    }
    for (int seed = 1; seed <= 60 && wrong < 10; seed++) {
      faults(new Random(1000 + seed), seed);
    }
    for (int seed = 1; seed <= 60 && wrong < 10; seed++) {
      sales(new Random(2000 + seed), seed);
    }
    System.out.println(wrong == 0 ? "the class answers as the model does" : "the class and the model differ");
    if (wrong != 0) System.exit(1);
  }

  private static void same(int seed, String call, long got, long want) {
    if (got != want) {
      wrong++;
      System.out.println("run " + seed + ": " + call + " answered " + got + ", the model says " + want);
    }
  }

  // ---- drawn texts

  private static String anyE(Random r, int deep) {
    StringBuilder e = new StringBuilder(anyTerm(r, deep));
    while (r.nextInt(3) == 0) e.append(r.nextBoolean() ? '+' : '-').append(anyTerm(r, deep));
    return e.toString();
  }

  private static String anyTerm(Random r, int deep) {
    StringBuilder e = new StringBuilder(anyFactor(r, deep));
    while (r.nextInt(4) == 0) e.append("*/%".charAt(r.nextInt(3))).append(anyFactor(r, deep));
    return e.toString();
  }

  private static String anyFactor(Random r, int deep) {
    int kind = r.nextInt(8);
    if (kind == 0 && deep < 5) return "[" + anyE(r, deep + 1) + "]";
    if (kind < 4) return "" + "tmxysidhots".charAt(r.nextInt(11));
    int[] bounds = {10, 10, 30, 100, 100000};
    return "" + r.nextInt(bounds[r.nextInt(5)]);
  }

  private static String anyC(Random r, int deep) {
    StringBuilder c = new StringBuilder(anyPiece(r, deep));
    while (r.nextInt(3) == 0) c.append(r.nextBoolean() ? '&' : '|').append(anyPiece(r, deep));
    return c.toString();
  }

  private static String anyPiece(Random r, int deep) {
    int kind = r.nextInt(7);
    if (kind == 0 && deep < 5) return "!" + anyPiece(r, deep + 1);
    if (kind == 1 && deep < 5) return "(" + anyC(r, deep + 1) + ")";
    if (kind < 4) return "t" + "<>".charAt(r.nextInt(2)) + r.nextInt(24);
    return anyE(r, deep) + "<>=".charAt(r.nextInt(3)) + anyE(r, deep);
  }

  private static String anyLaw(Random r) {
    String[] plain = {"u(t>5&t<19)", "e12-t(1=1)", "n3(m>1)", "n[t-12]*[t-12]/9(1=1)", "c2(t>11)", "p5+s(1=1)", "w20-d(1=1)",
        "g2(h<50)", "e0-5(t>12)", "u(!t<4&t<20)", "p[x*y+t]%9(1=1)", "w[x*7+y*5+i*d]%30(1=1)", "p3(x<6)", "n0-2(1=1)", "c[t*m]%11(1=1)",
        "w5(1=1)", "u(t%5<3)"};
    StringBuilder law = new StringBuilder();
    int clauses = 1 + r.nextInt(12);
    for (int k = 0; k < clauses; k++) {
      String clause = plain[r.nextInt(plain.length)];
      if (r.nextInt(4) == 0) {
        char letter = "uencpwg".charAt(r.nextInt(7));
        clause = letter + (letter == 'u' ? "" : anyE(r, 0)) + "(" + anyC(r, 1) + ")";
      }
      if (law.length() + clause.length() > 230) break;
      law.append(k == 0 ? "" : ";").append(clause);
    }
    return law.length() == 0 ? "u(1=1)" : law.toString();
  }

  private static void faults(Random r, int seed) {
    ShadeTown town = new ShadeTown();
    Model model = new Model();
    String signs = "uencpwgtmxysidho0123456789()[]!&|<>=+-*/%;a ";
    for (int k = 0; k < 50; k++) {
      StringBuilder text = new StringBuilder(anyLaw(r));
      int changes = r.nextInt(4);
      for (int j = 0; j < changes; j++) {
        int at = r.nextInt(text.length());
        char sign = signs.charAt(r.nextInt(signs.length()));
        int kind = r.nextInt(4);
        if (kind == 0) text.setCharAt(at, sign);
        if (kind == 1) text.insert(at, sign);
        if (kind == 2 && text.length() > 1) text.deleteCharAt(at);
        if (kind == 3) text.insert(at, "" + "([!".charAt(r.nextInt(3)) + "([!".charAt(r.nextInt(3)));
      }
      if (text.length() > 240) text.setLength(240);
      feed(town, model, text.toString());
      int n = r.nextInt(8) == 0 ? 1 + r.nextInt(text.length()) : text.length();
      same(seed, "law of " + text.substring(0, n), town.law(n), model.law(n));
      same(seed, "clauses", town.count(2), model.law == null ? 0 : model.law.size());
    }
  }

  // many squares and buyers who want the same ones
  private static void sales(Random r, int seed) {
    ShadeTown town = new ShadeTown();
    Model model = new Model();
    String[] worths = {"w[x*7+y*5+i*d]%30(1=1)", "w[x*y+i]%4(1=1)", "w[x+y]%5+i*[x%2](1=1)", "w[x*x*3+y*y*5+x*y*7]%[11+i](1=1)", "wd(i<4)", "w[x*7+y*5]%31(1=1)"};
    String law = "u(1=1);" + worths[r.nextInt(worths.length)];
    feed(town, model, law);
    same(seed, law, town.law(law.length()), model.law(law.length()));
    for (int k = 4 + r.nextInt(12); k > 0; k--) {
      int x = r.nextInt(12), y = r.nextInt(12), length = 1 + r.nextInt(3), direction = r.nextInt(4);
      same(seed, "awning", town.awning(x, y, length, direction, 0), model.awning(x, y, length, direction, 0));
    }
    for (int i = 0; i < 8; i++) {
      int x = r.nextInt(12), y = r.nextInt(12);
      town.buyer(i, x, y);
      model.buyer(i, x, y);
    }
    int buyers = r.nextBoolean() ? 255 : 1 + r.nextInt(255);
    for (int what = -1; what < 18; what += 1 + r.nextInt(5)) {
      same(seed, law + " sale " + buyers + " " + what, town.sale(9, buyers, what), model.sale(9, buyers, what));
    }
  }

  private static void feed(ShadeTown town, Model model, String text) {
    for (int from = 0; from < text.length(); from += 20) {
      int[] five = new int[5];
      for (int k = 0; k < 20; k++) {
        int sign = from + k < text.length() ? text.charAt(from + k) : 'a';
        five[k / 4] = five[k / 4] << 8 | sign;
      }
      town.feed(five[0], five[1], five[2], five[3], five[4]);
      model.feed(five);
    }
  }

  // ---- drawn runs

  private static int near(Random r, int low, int high) {
    if (r.nextInt(60) == 0) return r.nextBoolean() ? low - 1 : high + 1;
    return low + r.nextInt(high - low + 1);
  }

  private static void run(Random r, int seed) {
    ShadeTown town = new ShadeTown();
    Model model = new Model();
    String law = anyLaw(r);
    feed(town, model, law);
    same(seed, "law " + law, town.law(law.length()), model.law(law.length()));
    int side = r.nextBoolean() ? 11 : 4;
    for (int call = 0; call < 150 && wrong < 10; call++) {
      if (r.nextInt(2) == 0) {
        change(r, seed, town, model, side);
      } else {
        ask(r, seed, town, model, side);
      }
    }
  }

  private static void change(Random r, int seed, ShadeTown t, Model m, int side) {
    int x = near(r, 0, side), y = near(r, 0, side), owner = near(r, 0, 5), c = near(r, 0, 15);
    int from = near(r, 0, 20), to = from + near(r, 1, 8);
    switch (r.nextInt(16)) {
      case 0: case 1: case 2: {
        int[] kinds = {0, 0, 1, 3, 3, 2};
        int kind = kinds[r.nextInt(6)], height = near(r, 1, r.nextBoolean() ? 99 : 24);
        same(seed, "caster", t.caster(kind, x, y, height, owner), m.caster(kind, x, y, height, owner));
        break;
      }
      case 3: {
        int length = near(r, 1, 3), direction = near(r, 0, 3);
        same(seed, "awning", t.awning(x, y, length, direction, owner), m.awning(x, y, length, direction, owner));
        break;
      }
      case 4:
        if (r.nextInt(3) == 0) same(seed, "down", t.down(c) ? 1 : 0, m.down(c) ? 1 : 0);
        break;
      case 5:
        same(seed, "move", t.move(c, x, y) ? 1 : 0, m.move(c, x, y) ? 1 : 0);
        break;
      case 6: {
        int s = near(r, 0, 3);
        same(seed, "season", t.season(s) ? 1 : 0, m.season(s) ? 1 : 0);
        break;
      }
      case 7: {
        int i = near(r, 0, 7);
        same(seed, "buyer", t.buyer(i, x, y) ? 1 : 0, m.buyer(i, x, y) ? 1 : 0);
        break;
      }
      case 8: case 9: case 10: {
        int k = near(r, 0, 15), weight = near(r, 1, 99);
        boolean sun = r.nextBoolean();
        same(seed, "wish", t.wish(k, x, y, from, to, sun, weight) ? 1 : 0, m.wish(k, x, y, from, to, sun, weight) ? 1 : 0);
        break;
      }
      case 11: {
        int n = near(r, 1, 60);
        if (r.nextInt(3) == 0) same(seed, "years", t.years(n), m.years(n));
        break;
      }
      case 12: {
        int n = near(r, 1, 30);
        same(seed, "days", t.days(n), m.days(n));
        break;
      }
      case 13: {
        int s = near(r, 0, 65535);
        same(seed, "seed", t.seed(s) ? 1 : 0, m.seed(s) ? 1 : 0);
        break;
      }
      case 14:
        if (r.nextInt(2) == 0) same(seed, "keep", t.keep(), m.keep());
        else if (r.nextInt(3) == 0) same(seed, "undo", t.undo() ? 1 : 0, m.undo() ? 1 : 0);
        break;
      default:
        if (r.nextInt(4) == 0) {
          String law = anyLaw(r);
          feed(t, m, law);
          same(seed, "law " + law, t.law(law.length()), m.law(law.length()));
        }
    }
  }

  private static void ask(Random r, int seed, ShadeTown t, Model m, int side) {
    int x = near(r, 0, side), y = near(r, 0, side), owner = near(r, 0, 5), c = near(r, 0, 15), hour = near(r, 0, 23);
    int from = near(r, 0, 20), to = from + near(r, 1, 12);
    switch (r.nextInt(24)) {
      case 0:
        for (int what = -1; what < 7; what++) same(seed, "casterIs " + what, t.casterIs(c, what), m.casterIs(c, what));
        break;
      case 1:
        for (int what = -1; what < 5; what++) same(seed, "sun " + what, t.sun(hour, what), m.sun(hour, what));
        break;
      case 2:
        for (int k = 0; k < 144; k++) same(seed, "shade " + k, t.shade(k % 12, k / 12, hour), m.shade(k % 12, k / 12, hour));
        break;
      case 3:
        same(seed, "price", t.price(x, y, hour), m.price(x, y, hour));
        break;
      case 4:
        same(seed, "cast", t.cast(c, hour), m.cast(c, hour));
        same(seed, "cast", t.cast(c, 24), m.cast(c, 24));
        break;
      case 5:
        for (int what = 0; what < 2; what++) same(seed, "led " + what, t.led(owner, what), m.led(owner, what));
        break;
      case 6:
        for (int what = 0; what < 2; what++) same(seed, "longest " + what, t.longest(x, y, what), m.longest(x, y, what));
        break;
      case 7:
        for (int what = 0; what < 2; what++) same(seed, "donkey " + what, t.donkey(what), m.donkey(what));
        break;
      case 8: case 9:
        same(seed, "strip", t.strip(from, to, -1), m.strip(from, to, -1));
        same(seed, "strip", t.strip(from, to, 30), m.strip(from, to, 30));
        for (int h = from - 1; h <= to; h++) same(seed, "strip " + h, t.strip(from, to, h), m.strip(from, to, h));
        break;
      case 10: case 11: {
        int a = 12 * near(r, 0, side) + near(r, 0, side), b = 12 * y + x;
        for (int what = 0; what < 3; what++) {
          same(seed, "walk " + a + " " + b + " " + hour + " " + what, t.walk(a, b, hour, what), m.walk(a, b, hour, what));
        }
        break;
      }
      case 12: {
        int i = near(r, 0, 7);
        same(seed, "worth", t.worth(i, x, y, hour), m.worth(i, x, y, hour));
        break;
      }
      case 13: case 14: {
        int buyers = r.nextInt(4) == 0 ? near(r, 1, 255) : m.buyersTold();
        same(seed, "sale", t.sale(hour, buyers, -1), m.sale(hour, buyers, -1));
        for (int what = -2; what < 20; what++) {
          same(seed, "sale " + hour + " " + buyers + " " + what, t.sale(hour, buyers, what), m.sale(hour, buyers, what));
        }
        break;
      }
      case 15: {
        int k = near(r, 0, 15);
        same(seed, "kept", t.kept(k), m.kept(k));
        same(seed, "happy", t.happy(), m.happy());
        break;
      }
      case 16:
        for (int what = 0; what < 2; what++) same(seed, "storey " + what, t.storey(c, what), m.storey(c, what));
        break;
      case 17: {
        int length = near(r, 1, 3);
        for (int what = 0; what < 3; what++) same(seed, "bestAwning " + what, t.bestAwning(length, what), m.bestAwning(length, what));
        break;
      }
      case 18:
        for (int what = 0; what < 2; what++) same(seed, "hat " + what, t.hat(c, x, y, what), m.hat(c, x, y, what));
        break;
      case 19: case 20:
        same(seed, "takenDown", t.takenDown(), m.takenDown());
        break;
      case 21: {
        int n = near(r, 1, 60);
        for (int i = 0; i < 8; i++) same(seed, "noon", t.noon(n, i), m.noon(n, i));
        break;
      }
      case 22:
        for (int what = 0; what < 2; what++) same(seed, "odds", t.odds(from, to, what), m.odds(from, to, what));
        for (int o = 0; o < 6; o++) same(seed, "purse", t.purse(o), m.purses[o]);
        break;
      default:
        for (int what = -1; what < 10; what++) same(seed, "count " + what, t.count(what), m.count(what));
    }
  }

  // ---- the model

  private static final class Refused extends RuntimeException {
  }

  private static final class Caster implements Cloneable {
    int kind, x, y, size, direction, owner;
    boolean stands = true;

    Caster copy() {
      Caster c = new Caster();
      c.kind = kind; c.x = x; c.y = y; c.size = size; c.direction = direction; c.owner = owner; c.stands = stands;
      return c;
    }
  }

  private static final class Wish {
    int x, y, from, to, weight;
    boolean sun;
  }

  /** A text is tried sign by sign: the set of things that are open tells what can stand next. */
  private static final class Signs {
    final String text;
    int clauses = 0;

    Signs(String text) {
      this.text = text;
    }

    int fault() {
      List<Character> open = new ArrayList<>();
      // 'L' letter of a clause, 'P' its (, 'C' a piece, 'F' a factor, 'E' behind a factor, 'D' behind a piece, 'N' behind a clause
      char state = 'L';
      // where the E is: 'c' of the clause, 'l' left, 'r' right; one for each [ that is open
      StringBuilder where = new StringBuilder();
      int digits = 0;
      for (int at = 0; at <= text.length(); at++) {
        int sign = at < text.length() ? text.charAt(at) : -1;
        boolean isDigit = sign >= '0' && sign <= '9';
        if (state == 'E' && digits > 0 && isDigit) {
          digits++;
          if (digits == 6) return -2000 - at;
          continue;
        }
        if (!isDigit) digits = 0;
        if (state == 'E') {
          if (sign == '+' || sign == '-' || sign == '*' || sign == '/' || sign == '%') { state = 'F'; continue; }
          char here = where.charAt(where.length() - 1);
          if (sign == ']' && !open.isEmpty() && open.get(open.size() - 1) == '[') {
            open.remove(open.size() - 1);
            where.setLength(where.length() - 1);
            continue;
          }
          if (!open.isEmpty() && open.get(open.size() - 1) == '[') return -1000 - at;
          if (here == 'c') { where.setLength(0); state = 'P'; }
          else if (here == 'l') {
            if (sign != '<' && sign != '>' && sign != '=') return -1000 - at;
            where.setLength(0);
            where.append('r');
            state = 'F';
            continue;
          } else { where.setLength(0); state = 'D'; }
        }
        if (state == 'D') {
          while (!open.isEmpty() && open.get(open.size() - 1) == '!') open.remove(open.size() - 1);
          if (sign == '&' || sign == '|') { state = 'C'; continue; }
          if (sign != ')') return -1000 - at;
          open.remove(open.size() - 1);
          state = open.isEmpty() ? 'N' : 'D';
          continue;
        }
        if (state == 'N') {
          if (sign == -1) return 0;
          if (sign != ';') return -1000 - at;
          state = 'L';
          continue;
        }
        if (state == 'L') {
          if (sign < 0 || "uencpwg".indexOf(sign) < 0) return -1000 - at;
          clauses++;
          if (clauses == 17) return -4000 - at;
          state = sign == 'u' ? 'P' : 'F';
          if (sign != 'u') where.append('c');
          continue;
        }
        if (state == 'P') {
          if (sign != '(') return -1000 - at;
          open.add('(');
          state = 'C';
          continue;
        }
        if (state == 'C' && (sign == '!' || sign == '(')) {
          if (open.size() == 6) return -5000 - at;
          open.add((char) sign);
          continue;
        }
        if (state == 'C') { where.append('l'); state = 'F'; }
        if (sign == '[') {
          if (open.size() == 6) return -5000 - at;
          open.add('[');
          where.append(where.charAt(where.length() - 1));
        } else if (isDigit) { digits = 1; state = 'E'; }
        else if (sign >= 0 && "tmxysidho".indexOf(sign) >= 0) state = 'E';
        else return -1000 - at;
      }
      return -1000 - text.length();
    }
  }

  /** Reckons a text that has no fault, from its signs. */
  private static final class Reckoner {
    final String text;
    final int[] told;
    int at = 0;

    Reckoner(String text, int[] told) {
      this.text = text;
      this.told = told;
    }

    char sign() {
      return at < text.length() ? text.charAt(at) : 0;
    }

    // what is not asked is read, too, but not reckoned
    boolean c(boolean asked) {
      boolean held = part(asked);
      while (sign() == '|') {
        at++;
        boolean next = part(asked && !held);
        held = held || next;
      }
      return held;
    }

    boolean part(boolean asked) {
      boolean held = piece(asked);
      while (sign() == '&') {
        at++;
        boolean next = piece(asked && held);
        held = held && next;
      }
      return held;
    }

    boolean piece(boolean asked) {
      if (sign() == '!') {
        at++;
        return !piece(asked);
      }
      if (sign() == '(') {
        at++;
        boolean held = c(asked);
        at++;
        return held;
      }
      int left = e(asked);
      char op = sign();
      at++;
      int right = e(asked);
      return op == '<' ? left < right : op == '>' ? left > right : left == right;
    }

    int e(boolean asked) {
      int sum = term(asked);
      while (sign() == '+' || sign() == '-') {
        char op = sign();
        at++;
        int next = term(asked);
        sum = op == '+' ? sum + next : sum - next;
      }
      return sum;
    }

    int term(boolean asked) {
      int all = factor(asked);
      while (sign() == '*' || sign() == '/' || sign() == '%') {
        char op = sign();
        at++;
        int next = factor(asked);
        if (op != '*' && next == 0) {
          if (asked) throw new Refused();
          next = 1;
        }
        all = op == '*' ? all * next : op == '/' ? all / next : all % next;
      }
      return all;
    }

    int factor(boolean asked) {
      if (sign() == '[') {
        at++;
        int inside = e(asked);
        at++;
        return inside;
      }
      if (Character.isDigit(sign())) {
        int value = 0;
        while (Character.isDigit(sign())) {
          value = 10 * value + sign() - '0';
          at++;
        }
        return value;
      }
      return told["tmxysidho".indexOf(text.charAt(at++))];
    }
  }

  private static final class Model {
    List<Integer> tape = new ArrayList<>();
    List<String> law = new ArrayList<>();
    List<Caster> casters = new ArrayList<>();
    int season = 0, drawn = 1;
    int[] purses = new int[6];
    List<Caster> keptCasters = null;
    int keptSeason, keptDrawn;
    int[] keptPurses;
    int[] buyers = {-1, -1, -1, -1, -1, -1, -1, -1};
    Wish[] wishes = new Wish[16];

    void feed(int[] five) {
      if (tape.size() + 20 > 260) return;
      for (int v : five) for (int shift = 24; shift >= 0; shift -= 8) tape.add(v >>> shift & 255);
    }

    int law(int n) {
      if (n < 1 || n > 240 || n > tape.size()) return -1;
      StringBuilder text = new StringBuilder();
      for (int k = 0; k < n; k++) text.append((char) (int) tape.get(k));
      tape.clear();
      Signs signs = new Signs(text.toString());
      int fault = signs.fault();
      if (fault != 0) return fault;
      law = Arrays.asList(text.toString().split(";"));
      return law.size();
    }

    int[] told(int... values) {
      return Arrays.copyOf(values, 9);
    }

    boolean holds(String clause, int[] told) {
      String c = clause.substring(clause.indexOf('(') + 1, clause.length() - 1);
      try {
        return new Reckoner(c, told).c(true);
      } catch (Refused refused) {
        return false;
      }
    }

    int value(char letter, int[] told, int least, int most) {
      for (String clause : law) {
        if (clause.charAt(0) == letter && holds(clause, told)) {
          String e = clause.substring(1, clause.indexOf('('));
          try {
            return Math.max(least, Math.min(most, new Reckoner(e, told).e(true)));
          } catch (Refused refused) {
            return 0;
          }
        }
      }
      return 0;
    }

    boolean up(int t) {
      for (String clause : law) if (clause.charAt(0) == 'u' && holds(clause, told(t, season))) return true;
      return false;
    }

    static boolean in(int x, int y) {
      return x >= 0 && x <= 11 && y >= 0 && y <= 11;
    }

    static boolean hour(int t) {
      return t >= 0 && t <= 23;
    }

    boolean free(int x, int y) {
      for (Caster c : casters) if (c.stands && c.kind == 0 && c.x == x && c.y == y) return false;
      return true;
    }

    int caster(int kind, int x, int y, int height, int owner) {
      if (kind < 0 || kind > 3 || kind == 2 || !in(x, y) || height < 1 || height > 99 || owner < 0 || owner > 5) return -1;
      if (casters.size() == 16) return -1;
      if (kind == 0 && !free(x, y)) return -2;
      return add(kind, x, y, height, 0, owner);
    }

    int awning(int x, int y, int length, int direction, int owner) {
      if (!in(x, y) || length < 1 || length > 3 || direction < 0 || direction > 3 || owner < 0 || owner > 5) return -1;
      return casters.size() == 16 ? -1 : add(2, x, y, length, direction, owner);
    }

    int add(int kind, int x, int y, int size, int direction, int owner) {
      Caster c = new Caster();
      c.kind = kind; c.x = x; c.y = y; c.size = size; c.direction = direction; c.owner = owner;
      casters.add(c);
      return casters.size() - 1;
    }

    boolean is(int c) {
      return c >= 0 && c < casters.size();
    }

    boolean stands(int c, int kind) {
      return is(c) && casters.get(c).stands && casters.get(c).kind == kind;
    }

    boolean down(int c) {
      if (!is(c) || !casters.get(c).stands) return false;
      casters.get(c).stands = false;
      return true;
    }

    boolean move(int c, int x, int y) {
      if (!stands(c, 3) || !in(x, y) || !free(x, y)) return false;
      casters.get(c).x = x;
      casters.get(c).y = y;
      return true;
    }

    boolean season(int m) {
      if (m < 0 || m > 3) return false;
      season = m;
      return true;
    }

    int casterIs(int c, int what) {
      if (!is(c) || what < 0 || what > 5) return -1;
      Caster k = casters.get(c);
      return new int[] {k.kind, 12 * k.y + k.x, k.size, k.direction, k.owner, k.stands ? 1 : 0}[what];
    }

    int sun(int t, int what) {
      if (!hour(t) || what < 0 || what > 3) return -100;
      if (what == 0) return up(t) ? 1 : 0;
      return what == 3 ? value('c', told(t, season), 0, 10) : value(what == 1 ? 'e' : 'n', told(t, season), -9, 9);
    }

    int[] bits(int t) {
      int[] on = new int[144];
      if (!up(t)) return on;
      int e = sun(t, 1), n = sun(t, 2), m = Math.max(Math.abs(e), Math.abs(n));
      for (int c = 0; c < casters.size(); c++) {
        Caster k = casters.get(c);
        if (!k.stands) continue;
        List<int[]> places = new ArrayList<>();
        if (k.kind == 2) {
          int[][] ways = {{0, 1}, {1, 0}, {0, -1}, {-1, 0}};
          for (int j = 0; j < k.size; j++) places.add(new int[] {k.x + j * ways[k.direction][0], k.y + j * ways[k.direction][1]});
        } else {
          if (k.kind == 1) places.add(new int[] {k.x, k.y});
          for (int j = 1; j <= m * k.size / 12 && j <= 15; j++) places.add(new int[] {k.x + e * j / m, k.y + n * j / m});
        }
        for (int[] p : places) if (in(p[0], p[1]) && free(p[0], p[1])) on[12 * p[1] + p[0]] |= 1 << c;
      }
      return on;
    }

    int shade(int x, int y, int t) {
      return !in(x, y) || !hour(t) ? -1 : bits(t)[12 * y + x];
    }

    int price(int x, int y, int t) {
      return !in(x, y) || !hour(t) ? -1 : priceAt(x, y, t, bits(t));
    }

    int priceAt(int x, int y, int t, int[] on) {
      return value('p', told(t, season, x, y, Integer.bitCount(on[12 * y + x])), 0, 99);
    }

    int cast(int c, int t) {
      if (!is(c) || t < 0 || t > 24) return -1;
      int squares = 0;
      for (int h = t == 24 ? 0 : t; h <= (t == 24 ? 23 : t); h++) for (int on : bits(h)) if ((on & 1 << c) != 0) squares++;
      return squares;
    }

    long led(int owner, int what) {
      if (owner < 0 || owner > 5 || what < 0 || what > 1) return -1;
      java.math.BigInteger above = java.math.BigInteger.ZERO, below = java.math.BigInteger.ONE;
      for (int t = 0; t < 24; t++) {
        for (int on : bits(t)) {
          int mine = 0;
          for (int c = 0; c < 16; c++) if ((on >> c & 1) == 1 && casters.get(c).owner == owner) mine++;
          if (mine == 0) continue;
          java.math.BigInteger n = java.math.BigInteger.valueOf(Integer.bitCount(on));
          above = above.multiply(n).add(below.multiply(java.math.BigInteger.valueOf(mine)));
          below = below.multiply(n);
          java.math.BigInteger g = above.gcd(below);
          above = above.divide(g);
          below = below.divide(g);
        }
      }
      return (what == 0 ? above : below).longValueExact();
    }

    int longest(int x, int y, int what) {
      if (!in(x, y) || what < 0 || what > 1) return -1;
      boolean[] in = new boolean[25];
      for (int t = 0; t < 24; t++) in[t] = shade(x, y, t) > 0;
      int best = 0, first = -2;
      for (int t = 0; t < 24; t++) {
        int n = 0;
        while (in[t + n]) n++;
        if (n > best) { best = n; first = t; }
      }
      return what == 0 ? best : first;
    }

    int donkey(int what) {
      int square = -2, hours = -2;
      for (int s = 0; s < 144; s++) {
        if (!free(s % 12, s / 12) || s < 12 || free(s % 12, s / 12 - 1)) continue;
        int n = longest(s % 12, s / 12, 0);
        if (n > hours) { hours = n; square = s; }
      }
      return what == 0 ? square : hours;
    }

    static boolean beside(int a, int b) {
      return Math.abs(a % 12 - b % 12) + Math.abs(a / 12 - b / 12) == 1;
    }

    static int compare(int[] a, int[] b) {
      return b == null ? -1 : Arrays.compare(a, b);
    }

    // rows of prices, moves, and squares, the best one for each last square
    int strip(int from, int to, int what) {
      if (from < 0 || from >= to || to > 24 || to - from > 12) return -3;
      if (what != -1 && what != 30 && (what < from || what >= to)) return -3;
      int[][] best = new int[144][];
      for (int t = from; t < to; t++) {
        int[] on = bits(t);
        int[][] next = new int[144][];
        for (int s = 0; s < 144; s++) {
          if (on[s] == 0) continue;
          int p = priceAt(s % 12, s / 12, t, on);
          if (t == from) next[s] = new int[] {p, 0, s};
          for (int b = 0; b < 144 && t > from; b++) {
            if (best[b] == null || (b != s && !beside(b, s))) continue;
            int[] row = Arrays.copyOf(best[b], best[b].length + 1);
            row[0] += p;
            row[1] += b == s ? 0 : 1;
            row[row.length - 1] = s;
            if (compare(row, next[s]) < 0) next[s] = row;
          }
        }
        best = next;
      }
      int[] all = null;
      for (int[] row : best) if (row != null && compare(row, all) < 0) all = row;
      if (all == null) return -2;
      return what == -1 ? all[0] : what == 30 ? all[1] : all[2 + what - from];
    }

    int walk(int from, int to, int t, int what) {
      if (from < 0 || from > 143 || to < 0 || to > 143 || !hour(t) || what < 0 || what > 2) return -1;
      if (!free(from % 12, from / 12) || !free(to % 12, to / 12)) return -1;
      int[][] on = new int[24][];
      boolean[] up = new boolean[24];
      for (int h = 0; h < 24; h++) { on[h] = bits(h); up[h] = up(h); }
      // which counts of parts in the sun can be had on each square
      boolean[][] can = new boolean[144][80];
      can[from][0] = true;
      if (what == 0 && from == to) return 0;
      int sun = from == to ? 0 : 99, parts = from == to ? 0 : -2;
      for (int k = 1; k <= (what == 0 ? 72 : 36); k++) {
        int h = (t + (k - 1) / 6) % 24;
        boolean[][] next = new boolean[144][80];
        for (int s = 0; s < 144; s++) {
          if (!free(s % 12, s / 12)) continue;
          int more = up[h] && on[h][s] == 0 ? 1 : 0;
          for (int b = 0; b < 144; b++) {
            if (b != s && !beside(b, s)) continue;
            for (int n = 0; n < 79; n++) if (can[b][n]) next[s][n + more] = true;
          }
        }
        can = next;
        if (what == 0 && can[to][0]) return k;
        for (int n = 0; n < sun; n++) if (can[to][Math.min(n, 79)] && n < 80) { sun = n; parts = k; }
      }
      if (what == 0 || parts == -2) return -2;
      return what == 1 ? sun : parts;
    }

    boolean buyer(int i, int x, int y) {
      if (i < 0 || i > 7 || !in(x, y)) return false;
      buyers[i] = 12 * y + x;
      return true;
    }

    int buyersTold() {
      int bits = 0;
      for (int i = 0; i < 8; i++) if (buyers[i] >= 0) bits |= 1 << i;
      return bits;
    }

    int worth(int i, int x, int y, int t) {
      if (i < 0 || i > 7 || buyers[i] < 0 || !in(x, y) || !hour(t)) return -1;
      return worthAt(i, x, y, t, bits(t));
    }

    int worthAt(int i, int x, int y, int t, int[] on) {
      int d = Math.abs(x - buyers[i] % 12) + Math.abs(y - buyers[i] / 12);
      return value('w', told(t, season, x, y, Integer.bitCount(on[12 * y + x]), i, d), 0, 999);
    }

    int saleHour = -1, saleBuyers = -1;
    int[] saleRow;
    int[][] saleWorth;

    // the most worth with some buyers on squares that are still to be had
    int most(List<Integer> who, List<Integer> squares) {
      int[] best = new int[1 << who.size()];
      for (int s : squares) {
        for (int set = best.length - 1; set > 0; set--) {
          for (int k = 0; k < who.size(); k++) {
            if ((set >> k & 1) == 1) best[set] = Math.max(best[set], best[set & ~(1 << k)] + saleWorth[who.get(k)][s]);
          }
        }
      }
      return best[best.length - 1];
    }

    int sale(int t, int set, int what) {
      int i = what >= 10 ? what - 10 : what;
      if (!hour(t) || set < 1 || set > 255) return -3;
      if (what != -1 && (i < 0 || i > 7 || (set >> i & 1) == 0)) return -3;
      if ((set & ~buyersTold()) != 0) return -2;
      int[] on = bits(t);
      saleWorth = new int[8][144];
      List<Integer> who = new ArrayList<>(), squares = new ArrayList<>();
      for (int s = 0; s < 144; s++) if (on[s] != 0) squares.add(s);
      for (int k = 0; k < 8; k++) {
        if ((set >> k & 1) == 0) continue;
        who.add(k);
        for (int s : squares) saleWorth[k][s] = worthAt(k, s % 12, s / 12, t, on);
      }
      int all = most(who, squares);
      if (what == -1) return all;
      int[] row = new int[8];
      int rest = all;
      List<Integer> others = new ArrayList<>(who), left = new ArrayList<>(squares);
      for (int k : who) {
        others.remove((Integer) k);
        row[k] = 144;
        for (int s : new ArrayList<>(left)) {
          List<Integer> without = new ArrayList<>(left);
          without.remove((Integer) s);
          if (saleWorth[k][s] + most(others, without) == rest) {
            row[k] = s;
            rest -= saleWorth[k][s];
            left = without;
            break;
          }
        }
      }
      if (what < 10) return row[i];
      List<Integer> noI = new ArrayList<>(who);
      noI.remove((Integer) i);
      int own = row[i] == 144 ? 0 : saleWorth[i][row[i]];
      return most(noI, squares) - (all - own);
    }

    boolean wish(int k, int x, int y, int from, int to, boolean sun, int weight) {
      if (k < 0 || k > 15 || !in(x, y) || from < 0 || from >= to || to > 24 || weight < 1 || weight > 99) return false;
      Wish w = new Wish();
      w.x = x; w.y = y; w.from = from; w.to = to; w.sun = sun; w.weight = weight;
      wishes[k] = w;
      return true;
    }

    int kept(int k) {
      if (k < 0 || k > 15 || wishes[k] == null) return -1;
      Wish w = wishes[k];
      int n = 0;
      for (int t = w.from; t < w.to; t++) {
        if (up(t) && free(w.x, w.y) && (bits(t)[12 * w.y + w.x] == 0) == w.sun) n++;
      }
      return n;
    }

    int happy(boolean sun) {
      int sum = 0;
      for (int k = 0; k < 16; k++) if (wishes[k] != null && wishes[k].sun == sun) sum += wishes[k].weight * kept(k);
      return sum;
    }

    int happy() {
      return happy(true) + happy(false);
    }

    int storey(int c, int what) {
      if (!stands(c, 0) || what < 0 || what > 1) return -100000;
      int before = happy(what == 1), height = casters.get(c).size;
      casters.get(c).size = Math.min(99, height + 12);
      int after = happy(what == 1);
      casters.get(c).size = height;
      return what == 0 ? after - before : before - after;
    }

    int bestAwning(int length, int what) {
      if (length < 1 || length > 3 || what < 0 || what > 2) return -1;
      int best = -1, square = 0, direction = 0;
      // where no wish is near all is as without it, so of those the lowest will do
      int without = happy();
      for (int s = 0; s < 144; s++) {
        if (!free(s % 12, s / 12)) continue;
        for (int d = 0; d < 4; d++) {
          boolean near = false;
          for (Wish w : wishes) near |= w != null && Math.abs(w.x - s % 12) + Math.abs(w.y - s / 12) < 3;
          int happy = without;
          if (near) {
            // a caster whose bit is the 17th
            while (casters.size() < 16) { add(3, 0, 0, 1, 0, 0); casters.get(casters.size() - 1).stands = false; fillers++; }
            add(2, s % 12, s / 12, length, d, 0);
            happy = happy();
            casters.remove(16);
            while (fillers > 0) { casters.remove(casters.size() - 1); fillers--; }
          }
          if (happy > best) { best = happy; square = s; direction = d; }
        }
      }
      return new int[] {square, direction, best}[what];
    }

    int fillers = 0;

    int hat(int c, int x, int y, int what) {
      if (!stands(c, 3) || !in(x, y) || !free(x, y) || what < 0 || what > 1) return -1;
      int n = 0;
      Caster post = casters.get(c);
      for (int t = 0; t < 24; t++) {
        int[] before = bits(t);
        int oldX = post.x, oldY = post.y;
        post.x = x;
        post.y = y;
        int[] after = bits(t);
        post.x = oldX;
        post.y = oldY;
        for (int s = 0; s < 144; s++) {
          if (what == 0 && before[s] == 0 && after[s] != 0) n++;
          if (what == 1 && before[s] != 0 && after[s] == 0) n++;
        }
      }
      return n;
    }

    boolean allSunny() {
      int[][] on = new int[24][];
      for (Wish w : wishes) {
        if (w == null || !w.sun) continue;
        for (int t = w.from; t < w.to; t++) {
          if (on[t] == null) on[t] = bits(t);
          if (on[t][12 * w.y + w.x] != 0) return false;
        }
      }
      return true;
    }

    // who could be in the way of any wish if no house stood: others need not be tried
    int takenDown() {
      List<Integer> standing = new ArrayList<>();
      for (int c = 0; c < casters.size(); c++) if (casters.get(c).stands) standing.add(c);
      List<Integer> sets = new ArrayList<>();
      int all = 0;
      for (int c : standing) all |= 1 << c;
      if (standing.size() > 9) return fixed(all);
      for (int set = 0; set <= all; set++) if ((set & ~all) == 0) sets.add(set);
      sets.sort((a, b) -> Integer.bitCount(a) != Integer.bitCount(b) ? Integer.bitCount(a) - Integer.bitCount(b) : a - b);
      for (int set : sets) {
        if (sunnyWithout(set)) return set;
      }
      return -77;
    }

    boolean sunnyWithout(int set) {
      for (int c = 0; c < casters.size(); c++) if ((set >> c & 1) == 1) casters.get(c).stands = false;
      boolean sunny = allSunny();
      for (int c = 0; c < casters.size(); c++) if ((set >> c & 1) == 1) casters.get(c).stands = true;
      return sunny;
    }

    // with many, take down who casts on a wish till all are sunny
    int fixed(int all) {
      int set = 0;
      for (int round = 0; round < 20; round++) {
        for (int c = 0; c < casters.size(); c++) if ((set >> c & 1) == 1) casters.get(c).stands = false;
        int more = 0;
        for (Wish w : wishes) {
          if (w == null || !w.sun) continue;
          for (int t = w.from; t < w.to; t++) more |= bits(t)[12 * w.y + w.x];
        }
        for (int c = 0; c < casters.size(); c++) if ((set >> c & 1) == 1) casters.get(c).stands = true;
        set |= more;
      }
      return set & all;
    }

    int noon(int n, int i) {
      if (n < 1 || n > 60 || i < 0 || i > 7 || buyers[i] < 0) return -1;
      int places = 0;
      for (int on : bits(12)) if (on != 0) places++;
      places = Math.min(8, places);
      int[] had = new int[8];
      for (int d = 0; d < n; d++) {
        List<Integer> order = new ArrayList<>();
        for (int b = 0; b < 8; b++) if (buyers[b] >= 0) order.add(b);
        order.sort((a, b) -> had[a] != had[b] ? had[a] - had[b] : a - b);
        for (int k = 0; k < places && k < order.size(); k++) had[order.get(k)]++;
      }
      return had[i];
    }

    int years(int n) {
      if (n < 1 || n > 60) return -1;
      int grown = 0;
      for (int k = 0; k < n; k++) {
        for (Caster c : casters) {
          if (!c.stands || c.kind != 1) continue;
          int before = c.size;
          c.size = Math.min(99, before + value('g', new int[] {0, season, 0, 0, 0, 0, 0, before, c.owner}, 0, 9));
          grown += c.size - before;
        }
      }
      return grown;
    }

    int days(int n) {
      if (n < 1 || n > 30) return -1;
      int came = 0;
      int[][] on = new int[24][];
      int[][] prices = new int[24][144];
      for (int t = 0; t < 24; t++) {
        on[t] = bits(t);
        for (int s = 0; s < 144; s++) if (on[t][s] != 0) prices[t][s] = priceAt(s % 12, s / 12, t, on[t]);
      }
      int[] c = new int[24];
      boolean[] up = new boolean[24];
      for (int t = 0; t < 24; t++) { c[t] = sun(t, 3); up[t] = up(t); }
      for (int d = 0; d < n; d++) {
        for (int t = 0; t < 24; t++) {
          drawn = (int) ((25173L * drawn + 13849L) % 65536L);
          if (!up[t] || drawn % 10 < c[t]) continue;
          for (int s = 0; s < 144; s++) {
            for (int k = 0; k < casters.size(); k++) {
              if ((on[t][s] >> k & 1) == 0) continue;
              int part = prices[t][s] / Integer.bitCount(on[t][s]);
              purses[casters.get(k).owner] += part;
              came += part;
            }
          }
        }
      }
      return came;
    }

    long odds(int from, int to, int what) {
      if (from < 0 || from >= to || to > 24 || to - from > 18 || what < 0 || what > 1) return -1;
      java.math.BigInteger above = java.math.BigInteger.ONE, below = java.math.BigInteger.ONE;
      for (int t = from; t < to; t++) {
        if (!up(t)) continue;
        above = above.multiply(java.math.BigInteger.valueOf(10 - sun(t, 3)));
        below = below.multiply(java.math.BigInteger.TEN);
      }
      java.math.BigInteger g = above.gcd(below);
      return (what == 0 ? above : below).divide(g).longValueExact();
    }

    boolean seed(int x) {
      if (x < 0 || x > 65535) return false;
      drawn = x;
      return true;
    }

    static List<Caster> copy(List<Caster> all) {
      List<Caster> copy = new ArrayList<>();
      for (Caster c : all) copy.add(c.copy());
      return copy;
    }

    int keep() {
      keptCasters = copy(casters);
      keptSeason = season;
      keptDrawn = drawn;
      keptPurses = purses.clone();
      return Integer.bitCount(count(1));
    }

    boolean undo() {
      if (keptCasters == null) return false;
      casters = copy(keptCasters);
      season = keptSeason;
      drawn = keptDrawn;
      purses = keptPurses.clone();
      return true;
    }

    int count(int what) {
      int standing = 0, told = 0, free = 0;
      for (int c = 0; c < casters.size(); c++) if (casters.get(c).stands) standing |= 1 << c;
      for (int k = 0; k < 16; k++) if (wishes[k] != null) told |= 1 << k;
      for (int s = 0; s < 144; s++) if (free(s % 12, s / 12)) free++;
      int[] all = {casters.size(), standing, law.size(), tape.size(), season, drawn, Integer.bitCount(buyersTold()), told, free};
      return what < 0 || what > 8 ? -1 : all[what];
    }
  }
}
