import java.util.ArrayList;
import java.util.List;

// What the tests of the bounds share: what is due, texts on the tape, towns to begin with, and whether a call changed anything.
abstract class TownTest {
  interface Call {
    long on(ShadeTown x);
  }

  interface CallWith {
    long on(ShadeTown x, int value);
  }

  interface Maker {
    ShadeTown make();
  }

  static final int NONE = -1;
  static final int LEAST = Integer.MIN_VALUE;
  static final int MOST = Integer.MAX_VALUE;

  private static int wrong = 0;
  private static int asked = 0;
  private static String sentence = "";

  /** The sentence of the document that the rows below are about. */
  static void says(int promise, String words) {
    sentence = "promise " + promise + ", \"" + words + "\": ";
  }

  /** The promise that the rows below are about, as a whole. */
  static void promise(int number) {
    sentence = "promise " + number + ": ";
  }

  static void due(String call, long got, long want) {
    asked++;
    if (got != want) {
      wrong++;
      System.out.println(sentence + call + " answered " + got + ", due is " + want);
    }
  }

  static void due(String call, boolean got, boolean want) {
    due(call, got ? 1 : 0, want ? 1 : 0);
  }

  static long bit(boolean answer) {
    return answer ? 1 : 0;
  }

  static void end() {
    System.out.println(wrong == 0 ? asked + " answers are as due" : wrong + " of " + asked + " answers are not as due");
    if (wrong != 0) System.exit(1);
  }

  // ---- texts

  /** Feeds a text, filled up with the letter a, which can stand nowhere. */
  static void tape(ShadeTown x, String text) {
    for (int from = 0; from < text.length(); from += 20) {
      int[] five = new int[5];
      for (int k = 0; k < 20; k++) {
        int sign = from + k < text.length() ? text.charAt(from + k) : 'a';
        five[k / 4] = five[k / 4] << 8 | sign;
      }
      x.feed(five[0], five[1], five[2], five[3], five[4]);
    }
  }

  static int lawOf(ShadeTown x, String text) {
    tape(x, text);
    return x.law(text.length());
  }

  static ShadeTown under(String text) {
    ShadeTown x = new ShadeTown();
    if (lawOf(x, text) < 1) {
      throw new IllegalStateException(text);
    }
    return x;
  }

  static String times(String text, int n) {
    return text.repeat(n);
  }

  // ---- towns to begin with

  static final String LAW = "u(t>5&t<19);e12-t(1=1);n3(m>1);c2(t>11);p5+s(1=1);w100-d*2(1=1);g2(h<50)";

  /** Some of everything: casters 0 to 4 (the last one is gone), buyers 0, 1, 7, wishes 0, 1, 15, another state kept, a tape. */
  static ShadeTown whole() {
    ShadeTown x = wholeWithoutTape();
    // right for row 5 in hour 8, with three numbers more
    x.feed(0, 0, 0, 0, 0);
    x.feed(0, 2, 2, 1, 1);
    x.feed(0, 0, 7, 7, 7);
    return x;
  }

  static ShadeTown wholeWithoutTape() {
    ShadeTown x = under(LAW);
    x.caster(0, 5, 5, 12, 0);
    x.caster(1, 5, 6, 6, 1);
    x.caster(3, 4, 5, 6, 2);
    x.buyer(0, 5, 6);
    x.buyer(1, 7, 5);
    x.buyer(7, 0, 11);
    x.wish(0, 7, 4, 10, 14, true, 3);
    x.wish(1, 6, 5, 8, 12, false, 2);
    x.wish(15, 0, 0, 0, 24, true, 99);
    x.days(1);
    x.keep();
    x.awning(7, 4, 2, 0, 3);
    x.caster(0, 9, 9, 99, 5);
    x.down(4);
    x.season(1);
    x.days(2);
    return x;
  }

  /** Sixteen casters, of which 3 and 15 are gone: houses 0 to 3, trees to 7, posts to 11, awnings to 15. */
  static ShadeTown full() {
    ShadeTown x = under(LAW);
    for (int c = 0; c < 12; c++) {
      x.caster(c < 4 ? 0 : c < 8 ? 1 : 3, c, c % 4, 10 + c, c % 6);
    }
    for (int c = 12; c < 16; c++) {
      x.awning(c - 5, 9, 1 + c % 3, c % 4, c % 6);
    }
    x.down(3);
    x.keep();
    x.down(15);
    return x;
  }

  /** The sun is always up, nothing has a length; awnings 0 to 3 on the corners 0, 11, 132, 143; buyers 0 and 7 at 0, 0. */
  static ShadeTown corners() {
    ShadeTown x = under("u(1=1);p10+x+y*2+t(1=1);w500+x+y*2+t-d(1=1)");
    x.awning(0, 0, 1, 0, 0);
    x.awning(11, 0, 1, 0, 1);
    x.awning(0, 11, 1, 0, 2);
    x.awning(11, 11, 1, 0, 5);
    x.buyer(0, 0, 0);
    x.buyer(7, 0, 0);
    return x;
  }

  // ---- taken and refused

  static void taken(String call, Maker maker, Call made, long want) {
    due(call, made.on(maker.make()), want);
  }

  /** The call answers so, and a town on which it was called is as its twin on which it was not. */
  static void refused(String call, Maker maker, Call made, long want) {
    ShadeTown asked = maker.make();
    due(call, made.on(asked), want);
    sameAs(call, asked, maker.make());
  }

  static void sameAs(String call, ShadeTown got, ShadeTown want) {
    List<String> names = new ArrayList<>();
    List<Long> gotAll = all(got, names);
    List<Long> wantAll = all(want, new ArrayList<>());
    due(call + ": how many answers", gotAll.size(), wantAll.size());
    for (int k = 0; k < Math.min(gotAll.size(), wantAll.size()); k++) {
      if (!gotAll.get(k).equals(wantAll.get(k))) {
        due(call + " changed " + names.get(k), gotAll.get(k), wantAll.get(k));
      }
    }
  }

  /** The last values that are taken, with their answers; all beyond them are refused and change nothing. */
  static void range(String name, Maker maker, int low, int high, long atLow, long atHigh, long refusal, CallWith call) {
    taken(name + " = " + low, maker, x -> call.on(x, low), atLow);
    taken(name + " = " + high, maker, x -> call.on(x, high), atHigh);
    refusedBeyond(name, maker, low, high, refusal, call);
    refusedBeyond(name + " in a whole town", TownTest::whole, low, high, refusal, call);
  }

  static void refusedBeyond(String name, Maker maker, int low, int high, long refusal, CallWith call) {
    int[] beyond = {low - 1, high + 1, low - 2, high + 1000, LEAST, MOST, LEAST + low, low + (1 << 30), low - 256, high + 65536};
    for (int value : beyond) {
      refused(name + " = " + value, maker, x -> call.on(x, value), refusal);
    }
  }

  /** All that can be told of a town in some 380 calls; it ends with what was kept and an empty tape. */
  private static List<Long> all(ShadeTown x, List<String> names) {
    List<Long> all = new ArrayList<>();
    addTown(x, all, names);
    for (int hour = 0; hour < 24; hour++) {
      add(all, names, "whether the sun is up at " + hour, x.sun(hour, 0));
      add(all, names, "sun " + (1 + hour % 3) + " at " + hour, x.sun(hour, 1 + hour % 3));
      add(all, names, "shade of 7, 5 at " + hour, x.shade(7, 5, hour));
    }
    for (int i = 0; i < 8; i++) {
      add(all, names, "worth for buyer " + i, x.worth(i, 0, 0, 12));
      add(all, names, "worth in the east for buyer " + i, x.worth(i, 11, 0, 12));
    }
    for (int k = 0; k < 16; k++) {
      add(all, names, "wish " + k + " kept", x.kept(k));
    }
    add(all, names, "happy", x.happy());
    add(all, names, "price", x.price(7, 5, 8));
    int numbers = Math.min(12, x.count(3) / 4);
    add(all, names, "the tape", x.check(8, 5, numbers));
    add(all, names, "whether one is kept", bit(x.undo()));
    int before = names.size();
    addTown(x, all, names);
    for (int k = before; k < names.size(); k++) {
      names.set(k, "what was kept, " + names.get(k));
    }
    return all;
  }

  private static void addTown(ShadeTown x, List<Long> all, List<String> names) {
    for (int what = 0; what < 9; what++) {
      add(all, names, "count(" + what + ")", x.count(what));
    }
    int casters = x.count(0);
    for (int c = 0; c < casters; c++) {
      for (int what = 0; what < 6; what++) {
        add(all, names, "casterIs(" + c + ", " + what + ")", x.casterIs(c, what));
      }
    }
    for (int owner = 0; owner < 6; owner++) {
      add(all, names, "purse(" + owner + ")", x.purse(owner));
    }
  }

  private static void add(List<Long> all, List<String> names, String name, long answer) {
    names.add(name);
    all.add(answer);
  }
}
