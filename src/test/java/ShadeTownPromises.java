// One part for each promise of the document: ordinary inputs, the edges it names, wrong inputs.
// The answers that are due were reckoned by hand from the document.
public final class ShadeTownPromises extends TownTest {
  /** Up from 6 to 18; what is 12 high casts 3 to the east ahead of 12, 1 to the north at 12, 3 west behind. */
  private static final String SUN = "u(t>5&t<19);e3(t<12);e0-3(t>12);n1(t=12)";

  private static void fault(String text, int want) {
    ShadeTown x = new ShadeTown();
    due("law of " + text, lawOf(x, text), want);
    due("tape after " + text, x.count(3), 0);
  }

  public static void main(String[] args) {
    newObject();
    feed();
    law();
    lawFaults();
    lawReckons();
    lawRefuses();
    lawBounds();
    caster();
    awning();
    down();
    move();
    season();
    casterIs();
    sun();
    shade();
    price();
    cast();
    led();
    longest();
    donkey();
    strip();
    walk();
    buyer();
    worth();
    sale();
    wish();
    kept();
    happy();
    storey();
    bestAwning();
    hat();
    takenDown();
    noon();
    years();
    days();
    purse();
    odds();
    seed();
    keep();
    undo();
    check();
    count();
    end();
  }

  private static void newObject() {
    promise(1);
    ShadeTown x = new ShadeTown();
    due("NONE", ShadeTown.NONE, -1);
    int[] want = {0, 0, 0, 0, 0, 1, 0, 0, 144};
    for (int what = 0; what < want.length; what++) {
      due("count(" + what + ")", x.count(what), want[what]);
    }
    for (int owner = 0; owner < 6; owner++) {
      due("purse", x.purse(owner), 0);
    }
    for (int hour = 0; hour < 24; hour++) {
      for (int what = 0; what < 4; what++) {
        due("sun", x.sun(hour, what), 0);
      }
    }
    due("undo", x.undo(), false);
    due("happy", x.happy(), 0);
    due("takenDown", x.takenDown(), 0);
  }

  private static void feed() {
    promise(2);
    ShadeTown x = new ShadeTown();
    for (int k = 1; k <= 13; k++) {
      due("feed", x.feed(k, k, k, k, k), 20 * k);
    }
    due("feed beyond 260", x.feed(0, 0, 0, 0, 0), -1);
    due("count(3)", x.count(3), 260);
    x = new ShadeTown();
    // the highest byte of each int is the first one
    x.feed(0x75283D3D, 0, 0, 0, 0);
    due("law(4)", x.law(4), -1002);
    x.feed(0, 0x01020304, -1, 0x80000000, 7);
    due("check", x.check(0, 0, 5), 1);
    x.feed(0, 0, 0, 0, 7);
    due("check", x.check(0, 0, 5), 4);
    x.feed(0, -1, 0, 0, 0);
    due("check", x.check(0, 0, 5), 1);
  }

  private static void law() {
    promise(3);
    ShadeTown x = new ShadeTown();
    due("law(0)", x.law(0), -1);
    due("law(1)", x.law(1), -1);
    tape(x, "u(1=1);c3(1=1)");
    due("law(0)", x.law(0), -1);
    due("law(-1)", x.law(-1), -1);
    due("law(21)", x.law(21), -1);
    due("law(241)", x.law(241), -1);
    due("law(max)", x.law(Integer.MAX_VALUE), -1);
    due("the tape stays", x.count(3), 20);
    due("law(14)", x.law(14), 2);
    due("the tape is empty", x.count(3), 0);
    due("clauses", x.count(2), 2);
    due("sun", x.sun(4, 3), 3);
    due("a fault", lawOf(x, "u(1=1"), -1005);
    due("the tape is empty", x.count(3), 0);
    due("the text before stays", x.count(2), 2);
    due("the text before stays", x.sun(4, 3), 3);
    due("in place of it", lawOf(x, "u(1=2)"), 1);
    due("in place of it", x.sun(4, 3), 0);
    due("in place of it", x.sun(4, 0), 0);
    String longest = "u(" + times("1+", 117) + "1>1)";
    due("length", longest.length(), 240);
    due("240 bytes", lawOf(x, longest), 1);
    due("240 bytes", x.sun(0, 0), 1);
    for (int k = 0; k < 13; k++) {
      x.feed(0x20202020, 0, 0, 0, 0);
    }
    due("law(241)", x.law(241), -1);
    due("tape", x.count(3), 260);
    due("law(240)", x.law(240), -1000);
    due("tape", x.count(3), 0);
    due("clauses", lawOf(x, times("u(t=0);", 15) + "u(t=1)"), 16);
  }

  private static void lawFaults() {
    promise(3);
    fault("t(1=1)", -1000);
    fault(";", -1000);
    fault(" ", -1000);
    fault("u (1=1)", -1001);
    fault("u1(1=1)", -1001);
    fault("u()", -1002);
    fault("u(1)", -1003);
    fault("u(1=)", -1004);
    fault("u(1=1", -1005);
    fault("u(1=1))", -1006);
    fault("u(1=1)u(1=1)", -1006);
    fault("u(1=1);", -1007);
    fault("u(1=1);;", -1007);
    fault("u(1=1=1)", -1005);
    fault("u(1<=1)", -1004);
    fault("u((1+1)=2)", -1006);
    fault("u([1=1])", -1004);
    fault("u(1=1&)", -1006);
    fault("u(1=1|)", -1006);
    fault("u(|1=1)", -1002);
    fault("u(!)", -1003);
    fault("u(1!1)", -1003);
    fault("u(1=!1)", -1004);
    fault("e(1=1)", -1001);
    fault("e5", -1002);
    fault("e-5(1=1)", -1001);
    fault("e5-(1=1)", -1003);
    fault("e5+*1(1=1)", -1003);
    fault("e[5(1=1)", -1003);
    fault("e5](1=1)", -1002);
    fault("e[](1=1)", -1002);
    fault("e5t(1=1)", -1002);
    fault("et5(1=1)", -1002);
    fault("et(1=a)", -1005);
    fault("eT(1=1)", -1001);
    fault("w12345(1=1)", 1);
    fault("w123456(1=1)", -2006);
    fault("w000000(1=1)", -2006);
    fault("w1234567", -2006);
    fault("w12345", -1006);
    fault("u(12345=123456)", -2013);
    fault("u((((((1=1))))))", 1);
    fault("u(((((((1=1)))))))", -5007);
    fault("u(((((!1=1)))))", 1);
    fault("u((((((!1=1))))))", -5007);
    fault("u(!!!!!1=1)", 1);
    fault("u(!!!!!!1=1)", -5007);
    fault("u(!!!!!(1=1))", -5007);
    fault("u(!!!!![1]=1)", -5007);
    fault("u(!!!!1=[1])", 1);
    fault("u(!!!!!1=[1])", -5009);
    fault("u(!!!!!1=1+[1])", -5011);
    fault("u(!!!!1=1+[[1]])", -5011);
    fault("u(!!!!!1=1&!!!!!1=1)", 1);
    fault("u(!!!!!1=1&!!!!!!1=1)", -5016);
    fault("u(!(!(!1=1))&((((([1]=1))))))", -5018);
    fault("u(!(!(!1=1))&((((1=1)))))", 1);
    fault("u([[[[[1]]]]]=1)", 1);
    fault("u([[[[[[1]]]]]]=1)", -5007);
    fault("e[[[[[[1]]]]]](1=1)", 1);
    fault("e[[[[[[[1]]]]]]](1=1)", -5007);
    fault("e[[[[[[(", -1007);
    fault(times("u(t=0);", 16), -1112);
    fault(times("u(t=0);", 16) + "g", -4112);
    fault(times("u(t=0);", 16) + "x", -1112);
    fault(times("u(t=0);", 15) + "u(t=0)u", -1111);
  }

  private static int valueOf(String e) {
    ShadeTown x = under("w" + e + "(1=1)");
    x.buyer(3, 2, 2);
    x.season(2);
    return x.worth(3, 5, 1, 7);
  }

  private static boolean holds(String c) {
    return under("u(" + c + ")").sun(7, 0) == 1;
  }

  private static void lawReckons() {
    promise(3);
    due("from the left on", valueOf("100-10-5"), 85);
    due("from the left on", valueOf("100/7*7"), 98);
    due("from the left on", valueOf("100*7/8%50"), 37);
    due("* ahead of +", valueOf("2+3*4"), 14);
    due("[]", valueOf("[2+3]*4"), 20);
    due("toward 0", valueOf("100+[0-7]/2"), 97);
    due("sign of the left", valueOf("100+[0-7]%4"), 97);
    due("sign of the left", valueOf("100+7%[0-4]"), 103);
    // 99999 * 99999 = 9999800001, less twice 2^32 is 1409865409
    due("32 bits", valueOf("99999*99999/99999/100"), 140);
    due("32 bits", valueOf("500+[32768*65535+32767+1]/99999/100"), 286);
    due("least through -1", valueOf("[32768*65536]/[0-1]/[0-99999]/100"), 214);
    due("least modulo -1", valueOf("5+[32768*65536]%[0-1]"), 5);
    due("t", valueOf("t"), 7);
    due("m", valueOf("m"), 2);
    due("x", valueOf("x"), 5);
    due("y", valueOf("y"), 1);
    due("s", valueOf("s"), 0);
    due("i", valueOf("i"), 3);
    due("d", valueOf("d"), 4);
    due("h", valueOf("5+h"), 5);
    due("o", valueOf("5+o"), 5);
    due("& ahead of |", holds("1=1|1=1&1=2"), true);
    due("& ahead of |", holds("1=2&1=2|1=1"), true);
    due("& ahead of |", holds("1=2&(1=2|1=1)"), false);
    due("! of one piece", holds("!1=2&1=2"), false);
    due("! of a C", holds("!(1=2&1=2)"), true);
    due("!!", holds("!!1=1"), true);
    due("!!", holds("!!1=2"), false);
    due("<", holds("1<1"), false);
    due("<", holds("0-1<1"), true);
    due(">", holds("1>1"), false);
    due(">", holds("2>1"), true);
    due("letters that are not told", holds("x=0&y=0&s=0&i=0&d=0&h=0&o=0"), true);
    ShadeTown x = under("u(1=2);u(t=3);u(t=5)");
    due("any u", x.sun(3, 0), 1);
    due("any u", x.sun(5, 0), 1);
    due("any u", x.sun(4, 0), 0);
    x = under("c1(t<4);c2(t<8);c3(t<6)");
    due("the first", x.sun(3, 3), 1);
    due("the first", x.sun(5, 3), 2);
    due("none", x.sun(8, 3), 0);
  }

  private static void lawRefuses() {
    promise(3);
    due("an E is 0", valueOf("5+7/0"), 0);
    due("an E is 0", valueOf("5+7%0"), 0);
    due("an E is 0", valueOf("5+[7/s]*0"), 0);
    due("a C does not hold", holds("7/0=0"), false);
    due("a C does not hold", holds("!7/0=0"), false);
    due("a C does not hold", holds("7%0=7|1=1"), false);
    due("as much as matters", holds("1=1|7/0=0"), true);
    due("as much as matters", holds("1=2&7/0=0|1=1"), true);
    due("as much as matters", holds("!(1=2&7/0=0)"), true);
    due("as much as matters", holds("1=2|7/0=0"), false);
    ShadeTown x = under("c1(1/t>5);c2(1=1);p5/t(1=1);p9(1=1)");
    due("then the next one", x.sun(0, 3), 2);
    due("the first whose C holds, refused", x.price(0, 0, 0), 0);
    due("not refused", x.price(0, 0, 1), 5);
  }

  private static void lawBounds() {
    promise(3);
    ShadeTown x = under("e99(1=1);n0-99(1=1);c11(t=0);c0-1(t=1);p100(t=0);p0-1(t=1);w1000(t=0);w0-1(t=1);g10(1=1)");
    due("e", x.sun(0, 1), 9);
    due("n", x.sun(0, 2), -9);
    due("c", x.sun(0, 3), 10);
    due("c", x.sun(1, 3), 0);
    due("p", x.price(0, 0, 0), 99);
    due("p", x.price(0, 0, 1), 0);
    x.buyer(0, 0, 0);
    due("w", x.worth(0, 0, 0, 0), 999);
    due("w", x.worth(0, 0, 0, 1), 0);
    x.caster(1, 0, 0, 5, 0);
    due("g", x.years(1), 9);
    x = under("e0-10(1=1);n10(1=1);g0-1(1=1)");
    due("e", x.sun(0, 1), -9);
    due("n", x.sun(0, 2), 9);
    x.caster(1, 0, 0, 5, 0);
    due("g", x.years(1), 0);
  }

  private static void caster() {
    promise(4);
    ShadeTown x = new ShadeTown();
    due("a house", x.caster(0, 3, 4, 12, 5), 0);
    due("a house there", x.caster(0, 3, 4, 1, 0), -2);
    due("a tree there", x.caster(1, 3, 4, 99, 0), 1);
    due("a post there", x.caster(3, 3, 4, 1, 0), 2);
    due("a house on trees", x.caster(1, 0, 0, 1, 0), 3);
    due("a house on trees", x.caster(0, 0, 0, 1, 0), 4);
    int[][] bad = {{-1, 1, 1, 1, 1}, {2, 1, 1, 1, 1}, {4, 1, 1, 1, 1}, {0, -1, 1, 1, 1}, {0, 12, 1, 1, 1}, {0, 1, -1, 1, 1},
        {0, 1, 12, 1, 1}, {0, 1, 1, 0, 1}, {0, 1, 1, 100, 1}, {0, 1, 1, 1, -1}, {0, 1, 1, 1, 6}, {0, 3, 4, 0, 1},
        {Integer.MIN_VALUE, 1, 1, 1, 1}, {0, Integer.MAX_VALUE, 1, 1, 1}};
    for (int[] b : bad) {
      due("no such one", x.caster(b[0], b[1], b[2], b[3], b[4]), -1);
    }
    due("count", x.count(0), 5);
    x.down(0);
    due("where one is gone", x.caster(0, 3, 4, 7, 1), 5);
    for (int c = 6; c < 16; c++) {
      due("a tree", x.caster(1, c - 6, 11, c, 3), c);
    }
    due("16 are there", x.caster(1, 1, 1, 1, 1), -1);
    due("16 are there, and a house", x.caster(0, 3, 4, 1, 1), -1);
    x.down(7);
    due("gone ones, too", x.caster(1, 1, 1, 1, 1), -1);
    due("count", x.count(0), 16);
  }

  private static void awning() {
    promise(5);
    ShadeTown x = under(SUN);
    due("an awning", x.awning(10, 11, 3, 1, 2), 0);
    due("it goes beyond the town", x.cast(0, 12), 2);
    due("the other way", x.awning(1, 0, 3, 3, 2), 1);
    due("the other way", x.cast(1, 12), 2);
    due("north", x.awning(5, 5, 3, 0, 2), 2);
    due("north", x.shade(5, 7, 12), 4);
    due("north", x.shade(5, 8, 12), 0);
    due("south", x.awning(5, 5, 2, 2, 2), 3);
    due("south", x.shade(5, 4, 12), 8);
    due("both", x.shade(5, 5, 12), 12);
    due("not in the night", x.shade(5, 5, 5), 0);
    due("on a house", x.caster(0, 8, 8, 1, 0), 4);
    due("on a house", x.awning(8, 8, 2, 1, 0), 5);
    due("not on the house", x.shade(8, 8, 12), 0);
    due("beside it", x.shade(9, 8, 12), 32);
    int[][] bad = {{-1, 1, 1, 1, 1}, {12, 1, 1, 1, 1}, {1, -1, 1, 1, 1}, {1, 12, 1, 1, 1}, {1, 1, 0, 1, 1}, {1, 1, 4, 1, 1},
        {1, 1, 1, -1, 1}, {1, 1, 1, 4, 1}, {1, 1, 1, 1, -1}, {1, 1, 1, 1, 6}};
    for (int[] b : bad) {
      due("no such one", x.awning(b[0], b[1], b[2], b[3], b[4]), -1);
    }
    for (int c = 6; c < 16; c++) {
      due("an awning", x.awning(0, 0, 1, 0, 0), c);
    }
    due("16 are there", x.awning(0, 0, 1, 0, 0), -1);
    due("count", x.count(0), 16);
  }

  private static void down() {
    promise(6);
    ShadeTown x = under(SUN);
    x.caster(0, 5, 5, 12, 0);
    x.awning(5, 5, 1, 0, 1);
    due("no such one", x.down(-1), false);
    due("no such one", x.down(2), false);
    due("no such one", x.down(Integer.MAX_VALUE), false);
    due("on a house", x.shade(5, 5, 9), 0);
    due("down", x.down(0), true);
    due("it is", x.down(0), false);
    due("free then", x.shade(5, 5, 9), 2);
    due("casts no more", x.shade(6, 5, 9), 0);
    due("standing", x.count(1), 2);
    due("all", x.count(0), 2);
    due("free", x.count(8), 144);
  }

  private static void move() {
    promise(7);
    ShadeTown x = under(SUN);
    x.caster(3, 5, 5, 12, 0);
    x.caster(0, 6, 6, 12, 0);
    x.caster(1, 7, 7, 12, 0);
    x.awning(8, 8, 1, 0, 0);
    due("move", x.move(0, 0, 11), true);
    due("moved", x.casterIs(0, 1), 132);
    due("casts there", x.shade(1, 11, 9), 1);
    due("casts there no more", x.shade(6, 5, 9), 0);
    due("where it is", x.move(0, 0, 11), true);
    due("to a tree", x.move(0, 7, 7), true);
    due("not free", x.move(0, 6, 6), false);
    due("no such square", x.move(0, 12, 0), false);
    due("no such square", x.move(0, 0, -1), false);
    due("no such square", x.move(0, -1, 5), false);
    due("a house", x.move(1, 0, 0), false);
    due("a tree", x.move(2, 0, 0), false);
    due("an awning", x.move(3, 0, 0), false);
    due("none", x.move(4, 0, 0), false);
    due("none", x.move(-1, 0, 0), false);
    due("nothing is changed", x.casterIs(0, 1), 91);
    x.down(0);
    due("gone", x.move(0, 0, 0), false);
    x.down(1);
    x.caster(3, 0, 0, 1, 0);
    due("a house that is gone", x.move(4, 6, 6), true);
  }

  private static void season() {
    promise(8);
    ShadeTown x = under("u(m=3);c9(m=2)");
    due("at first", x.sun(0, 0), 0);
    for (int m = 0; m < 4; m++) {
      due("season", x.season(m), true);
      due("season", x.count(4), m);
      due("u by season", x.sun(0, 0), m == 3 ? 1 : 0);
      due("c by season", x.sun(0, 3), m == 2 ? 9 : 0);
    }
    due("no such one", x.season(4), false);
    due("no such one", x.season(-1), false);
    due("season", x.count(4), 3);
  }

  private static void casterIs() {
    promise(9);
    ShadeTown x = new ShadeTown();
    x.caster(0, 11, 10, 99, 5);
    x.caster(1, 0, 0, 1, 0);
    x.caster(3, 0, 1, 17, 3);
    x.awning(11, 11, 3, 2, 4);
    x.down(2);
    int[][] want = {{0, 131, 99, 0, 5, 1}, {1, 0, 1, 0, 0, 1}, {3, 12, 17, 0, 3, 0}, {2, 143, 3, 2, 4, 1}};
    for (int c = 0; c < 4; c++) {
      for (int what = 0; what < 6; what++) {
        due("casterIs(" + c + ", " + what + ")", x.casterIs(c, what), want[c][what]);
      }
      due("no such what", x.casterIs(c, 6), -1);
      due("no such what", x.casterIs(c, -1), -1);
    }
    due("no such one", x.casterIs(4, 0), -1);
    due("no such one", x.casterIs(-1, 0), -1);
  }

  private static void sun() {
    promise(10);
    ShadeTown x = under("u(t=5);e0-4(t=5|t=6);n2(t=6);c7(t>5)");
    due("up", x.sun(5, 0), 1);
    due("not up", x.sun(6, 0), 0);
    due("e", x.sun(5, 1), -4);
    due("e though not up", x.sun(6, 1), -4);
    due("n though not up", x.sun(6, 2), 2);
    due("n", x.sun(5, 2), 0);
    due("c", x.sun(23, 3), 7);
    due("c", x.sun(5, 3), 0);
    due("no such hour", x.sun(24, 0), -100);
    due("no such hour", x.sun(-1, 3), -100);
    due("no such what", x.sun(5, 4), -100);
    due("no such what", x.sun(5, -1), -100);
  }

  private static void shade() {
    promise(11);
    // 9 east and 6 south: the greater is 9; 16 high: 12 squares, by 9k/9 and 6k/9 toward 0
    ShadeTown x = under("u(t<20);e9(1=1);n0-6(1=1)");
    x.caster(3, 2, 9, 16, 0);
    int[] south = {0, 1, 2, 2, 3, 4, 4, 5, 6};
    for (int k = 1; k <= 9; k++) {
      due("k " + k, x.shade(2 + k, 9 - south[k - 1], 3), 1);
    }
    due("nine of twelve are in the town", x.cast(0, 3), 9);
    due("not its own", x.shade(2, 9, 3), 0);
    due("by night", x.shade(3, 9, 20), 0);
    // 1 high and 9 wide: 9/12 is none; 2 high: 18/12 is one
    x.caster(3, 0, 2, 1, 0);
    due("none", x.cast(1, 3), 0);
    x.caster(3, 0, 2, 2, 0);
    due("one", x.cast(2, 3), 1);
    due("one", x.shade(1, 2, 3), 4);
    // 15 at most: straight on by 1 of 9 to the north in 15 steps
    x = under("u(1=1);e1(1=1);n1(1=1)");
    x.caster(1, 0, 0, 99, 0);
    due("eight and its own", x.cast(0, 0), 9);
    due("its own", x.shade(0, 0, 0), 1);
    due("eight", x.shade(8, 8, 0), 1);
    due("not nine", x.shade(9, 9, 0), 0);
    // behind others, on no house
    x = under("u(1=1);e9(1=1)");
    x.caster(0, 0, 0, 99, 0);
    x.caster(0, 4, 0, 4, 1);
    due("ahead", x.shade(3, 0, 0), 1);
    due("on a house", x.shade(4, 0, 0), 0);
    due("behind it, both", x.shade(5, 0, 0), 3);
    due("4 high: three", x.shade(7, 0, 0), 3);
    due("no more of it", x.shade(8, 0, 0), 1);
    due("to the edge", x.shade(11, 0, 0), 1);
    // no length: trees alone
    x = under("u(1=1)");
    x.caster(1, 0, 0, 99, 0);
    x.caster(0, 1, 0, 99, 0);
    due("a tree", x.cast(0, 0), 1);
    due("a house", x.cast(1, 0), 0);
    due("no such square", x.shade(12, 0, 0), -1);
    due("no such square", x.shade(-1, 0, 0), -1);
    due("no such square", x.shade(0, 12, 0), -1);
    due("no such square", x.shade(0, -1, 0), -1);
    due("no such hour", x.shade(0, 0, 24), -1);
    due("no such hour", x.shade(0, 0, -1), -1);
    // -9 to the west with 0 - 5 north: toward 0
    x = under("u(1=1);e0-9(1=1);n5(1=1)");
    x.caster(3, 11, 0, 12, 0);
    int[] north = {0, 1, 1, 2, 2, 3, 3, 4, 5};
    for (int k = 1; k <= 9; k++) {
      due("k " + k, x.shade(11 - k, north[k - 1], 0), 1);
    }
  }

  private static void price() {
    promise(12);
    ShadeTown x = under("u(t<20);p10*x+y+s*20+t(1=1)");
    x.caster(1, 3, 4, 5, 0);
    x.awning(3, 4, 1, 0, 0);
    due("s", x.price(3, 4, 1), 75);
    due("by night nobody casts", x.price(3, 4, 20), 54);
    due("elsewhere", x.price(4, 3, 0), 43);
    due("99 at most", x.price(11, 0, 0), 99);
    x.caster(0, 3, 4, 5, 0);
    due("on a house nobody casts", x.price(3, 4, 1), 35);
    due("no such square", x.price(12, 0, 0), -1);
    due("no such square", x.price(0, -1, 0), -1);
    due("no such hour", x.price(0, 0, 24), -1);
    due("no such hour", x.price(0, 0, -1), -1);
    x = under("p5+i+d+h+o(1=1)");
    due("what is not told", x.price(11, 11, 23), 5);
  }

  private static void cast() {
    promise(13);
    ShadeTown x = under(SUN);
    x.caster(0, 5, 5, 12, 0);
    x.caster(1, 1, 1, 8, 0);
    due("an hour", x.cast(0, 6), 3);
    due("noon", x.cast(0, 12), 1);
    due("night", x.cast(0, 5), 0);
    due("the day", x.cast(0, 24), 37);
    // 8 high: two squares and its own, its own at noon
    due("a tree", x.cast(1, 6), 3);
    due("a tree, two are out of the town", x.cast(1, 13), 2);
    due("a tree in the day", x.cast(1, 24), 18 + 1 + 12);
    due("no such one", x.cast(2, 6), -1);
    due("no such one", x.cast(-1, 6), -1);
    due("no such hour", x.cast(0, 25), -1);
    due("no such hour", x.cast(0, -1), -1);
    x.down(0);
    due("gone", x.cast(0, 24), 0);
    due("gone", x.cast(0, 6), 0);
  }

  private static void led() {
    promise(14);
    ShadeTown x = under("u(t<7)");
    x.awning(0, 0, 2, 1, 1);
    x.awning(0, 0, 1, 1, 2);
    x.awning(0, 0, 1, 1, 1);
    // seven hours: owner 1 has 2/3 of one square and all of another, owner 2 has 1/3
    due("above", x.led(1, 0), 35);
    due("below", x.led(1, 1), 3);
    due("above", x.led(2, 0), 7);
    due("below", x.led(2, 1), 3);
    due("nothing", x.led(0, 0), 0);
    due("nothing", x.led(0, 1), 1);
    x.down(1);
    due("a whole number", x.led(1, 0), 14);
    due("a whole number", x.led(1, 1), 1);
    due("no such owner", x.led(6, 0), -1);
    due("no such owner", x.led(-1, 0), -1);
    due("no such what", x.led(0, 2), -1);
    due("no such what", x.led(0, -1), -1);
    // 16 on one square
    x = under("u(t=0)");
    for (int c = 0; c < 16; c++) {
      x.awning(0, 0, 1, 0, c == 0 ? 3 : 4);
    }
    due("1 of 16", x.led(3, 0), 1);
    due("1 of 16", x.led(3, 1), 16);
    due("15 of 16", x.led(4, 0), 15);
  }

  private static void longest() {
    promise(15);
    ShadeTown x = under("u(t>1&t<5|t=7|t>19);e1(t<8)");
    x.caster(0, 0, 0, 12, 0);
    x.awning(5, 5, 1, 0, 0);
    due("three", x.longest(1, 0, 0), 3);
    due("from 2 on", x.longest(1, 0, 1), 2);
    due("four; 23 and 0 are not one row", x.longest(5, 5, 0), 4);
    due("from 20 on", x.longest(5, 5, 1), 20);
    due("none", x.longest(2, 0, 0), 0);
    due("none", x.longest(2, 0, 1), -2);
    due("a house", x.longest(0, 0, 1), -2);
    lawOf(x, "u(t=3|t=4|t=8|t=9)");
    due("the first of like ones", x.longest(5, 5, 1), 3);
    lawOf(x, "u(t<3|t>21)");
    due("not around", x.longest(5, 5, 0), 3);
    lawOf(x, "u(1=1)");
    due("all", x.longest(5, 5, 0), 24);
    due("all", x.longest(5, 5, 1), 0);
    due("no such square", x.longest(12, 0, 0), -1);
    due("no such square", x.longest(0, -1, 0), -1);
    due("no such what", x.longest(0, 0, 2), -1);
    due("no such what", x.longest(0, 0, -1), -1);
  }

  private static void donkey() {
    promise(16);
    ShadeTown x = under("u(t>5&t<19);n1(t>9)");
    due("none", x.donkey(0), -2);
    due("none", x.donkey(1), -2);
    x.caster(0, 5, 11, 12, 0);
    due("nothing north of it", x.donkey(0), -2);
    x.caster(0, 7, 3, 6, 0);
    due("north of it, though in the sun", x.donkey(0), 12 * 4 + 7);
    due("no hours", x.donkey(1), 0);
    x.caster(0, 9, 3, 12, 0);
    due("in shade", x.donkey(0), 12 * 4 + 9);
    due("nine hours", x.donkey(1), 9);
    x.caster(0, 2, 4, 12, 0);
    due("the lowest of like ones", x.donkey(0), 12 * 4 + 9);
    x.caster(0, 9, 4, 12, 0);
    due("not free", x.donkey(0), 12 * 5 + 2);
    x.awning(9, 5, 1, 0, 0);
    due("by an awning", x.donkey(0), 12 * 5 + 9);
    due("by an awning", x.donkey(1), 13);
    x.down(4);
    due("where a house is gone", x.donkey(0), 12 * 4 + 9);
    due("where a house is gone", x.donkey(1), 9);
    due("no such what", x.donkey(2), -1);
    due("no such what", x.donkey(-1), -1);
  }

  private static void strip() {
    promise(17);
    // awnings: 0 and 1 beside one another, 24 alone and dearer by one
    ShadeTown x = under("u(t<20);p3(y=2);p1+[t%2]*[1-x]*2+[1-t%2]*x*2(1=1)");
    x.awning(0, 0, 2, 1, 0);
    x.awning(0, 2, 1, 0, 0);
    // square 0 costs 3 in odd hours and 1 in even ones, square 1 the other way round
    due("prices", x.strip(0, 4, -1), 4);
    due("moves", x.strip(0, 4, 30), 3);
    due("square", x.strip(0, 4, 0), 0);
    due("square", x.strip(0, 4, 1), 1);
    due("square", x.strip(0, 4, 2), 0);
    due("square", x.strip(0, 4, 3), 1);
    due("twelve hours", x.strip(3, 15, -1), 12);
    due("twelve hours", x.strip(3, 15, 30), 11);
    due("into the night", x.strip(18, 21, -1), -2);
    due("till the night", x.strip(18, 20, -1), 2);
    due("thirteen hours", x.strip(3, 16, -1), -3);
    due("no hours", x.strip(3, 3, -1), -3);
    due("behind the day", x.strip(20, 25, -1), -3);
    due("ahead of the day", x.strip(-1, 2, -1), -3);
    due("an hour not in it", x.strip(3, 5, 5), -3);
    due("an hour not in it", x.strip(3, 5, 2), -3);
    due("no such what", x.strip(3, 5, 31), -3);
    due("no such what", x.strip(3, 5, -2), -3);
    lawOf(x, "u(1=1);p2(x=0);p2(x=1)");
    due("of like ones fewest moves", x.strip(0, 3, 30), 0);
    due("of like ones the least row", x.strip(0, 3, 24 - 23), 24 - 24);
    // square 24 is free of cost (no p for y = 2 unless x = 0): it costs 2, too
    due("prices", x.strip(0, 3, -1), 6);
    // one move is needed: go as late or as early as the least row wants
    lawOf(x, "u(1=1);p9(t=0&x=1);p9(t=3&x=0);p9(y=2);p1(1=1)");
    due("one move", x.strip(0, 4, 30), 1);
    due("the least row stays low", x.strip(0, 4, 2), 0);
    due("then it must go", x.strip(0, 4, 3), 1);
    due("the sum", x.strip(0, 4, -1), 4);
    // from 1, 1 to one of its four sides, which are all alike: the lowest; then without the lowest, and so on
    String[] dear = {"", "y=0|", "y=0|x=0|", "y=0|x=0|x=2|"};
    int[] lowest = {1, 12, 14, 25};
    for (int k = 0; k < 4; k++) {
      x = under("u(1=1);p1(x=1&y=1&t=0);p50(t=0);p9(" + dear[k] + "x=1&y=1);p1(1=1)");
      x.awning(0, 1, 3, 1, 0);
      x.awning(1, 0, 3, 0, 0);
      due("from the middle", x.strip(0, 2, 0), 13);
      due("to a side", x.strip(0, 2, 1), lowest[k]);
      due("one move", x.strip(0, 2, 30), 1);
    }
    // apart from one another: no way from one to the other
    x = under("u(1=1);e9(t=1)");
    x.caster(3, 0, 0, 4, 0);
    due("in one hour alone", x.strip(1, 2, -1), 0);
    due("in one hour alone", x.strip(1, 2, 1), 1);
    due("not in the next", x.strip(1, 3, -1), -2);
    x.awning(7, 7, 1, 0, 0);
    due("elsewhere", x.strip(1, 3, 1), 91);
  }

  private static void walk() {
    promise(18);
    ShadeTown x = under("u(t>5&t<19)");
    due("by night", x.walk(0, 143, 0, 0), 22);
    due("by night", x.walk(0, 143, 0, 1), 0);
    due("by night", x.walk(0, 143, 0, 2), 22);
    due("where it is", x.walk(7, 7, 12, 0), 0);
    due("where it is", x.walk(7, 7, 12, 1), 0);
    due("where it is", x.walk(7, 7, 12, 2), 0);
    // from 5 on six parts are in the dark
    due("six in the dark", x.walk(0, 6, 5, 0), 6);
    due("a seventh is in the sun", x.walk(0, 7, 5, 1), 1);
    due("a seventh is in the sun", x.walk(0, 7, 5, 2), 7);
    due("not in 72 parts: 13 hours of sun", x.walk(0, 7, 6, 0), -2);
    due("within 72 at 7: twelve hours of sun", x.walk(0, 1, 7, 0), -2);
    due("at 8 the 67th part is dark, but one waits in the sun", x.walk(0, 1, 8, 0), -2);
    due("to 0 behind 23", x.walk(0, 143, 22, 0), 22);
    due("one in the sun is least", x.walk(0, 1, 12, 1), 1);
    due("and soonest", x.walk(0, 1, 12, 2), 1);
    // waiting for the dark costs sun
    due("two in the sun", x.walk(0, 2, 18, 1), 2);
    due("two in the sun", x.walk(0, 2, 18, 2), 2);
    x.awning(0, 0, 1, 0, 0);
    due("waiting in shade", x.walk(0, 2, 18, 0), 8);
    due("waiting in shade", x.walk(0, 2, 18, 1), 0);
    due("waiting in shade", x.walk(0, 2, 18, 2), 8);
    due("the 67th part is dark", x.walk(0, 1, 8, 0), 67);
    due("the 72nd part is dark", x.walk(0, 6, 8, 0), 72);
    due("no part more", x.walk(0, 7, 8, 0), -2);
    due("the beginning is not asked", x.walk(1, 0, 12, 0), 1);
    lawOf(x, "u(t>5&t<18)");
    due("dark in the 37th part is too late", x.walk(0, 1, 12, 1), 1);
    due("dark in the 37th part is too late", x.walk(0, 1, 12, 2), 1);
    due("dark in the 31st part", x.walk(0, 1, 13, 1), 0);
    due("dark in the 31st part", x.walk(0, 1, 13, 2), 31);
    due("36 parts", x.walk(0, 6, 13, 1), 0);
    due("36 parts", x.walk(0, 6, 13, 2), 36);
    due("36 parts, one in the sun", x.walk(0, 7, 13, 1), 1);
    due("36 parts, one in the sun", x.walk(0, 7, 13, 2), 36);
    x.caster(0, 1, 0, 1, 0);
    x.caster(0, 0, 1, 1, 0);
    due("shut in", x.walk(0, 2, 0, 0), -2);
    due("shut in", x.walk(0, 2, 0, 1), -2);
    due("shut in", x.walk(0, 2, 0, 2), -2);
    due("not free", x.walk(1, 2, 0, 0), -1);
    due("not free", x.walk(2, 12, 0, 0), -1);
    due("no such square", x.walk(-1, 2, 0, 0), -1);
    due("no such square", x.walk(2, 144, 0, 0), -1);
    due("no such hour", x.walk(2, 3, 24, 0), -1);
    due("no such hour", x.walk(2, 3, -1, 0), -1);
    due("no such what", x.walk(2, 3, 0, 3), -1);
    due("no such what", x.walk(2, 3, 0, -1), -1);
    // a way around that is in shade: along x = 0, 1, 2 in row 1
    x = under("u(1=1)");
    x.awning(0, 1, 3, 1, 0);
    x.awning(2, 0, 1, 0, 0);
    due("around", x.walk(0, 2, 12, 0), 4);
    due("least sun", x.walk(0, 2, 12, 1), 0);
    due("least sun", x.walk(0, 2, 12, 2), 4);
  }

  private static void buyer() {
    promise(19);
    ShadeTown x = under("w100-d(1=1)");
    for (int i = 0; i < 8; i++) {
      due("buyer", x.buyer(i, i, 11 - i), true);
    }
    due("told", x.count(6), 8);
    due("in place of the one before", x.buyer(0, 3, 3), true);
    due("in place of the one before", x.worth(0, 3, 3, 0), 100);
    due("told", x.count(6), 8);
    due("no such one", x.buyer(8, 0, 0), false);
    due("no such one", x.buyer(-1, 0, 0), false);
    due("no such square", x.buyer(0, 12, 0), false);
    due("no such square", x.buyer(0, 0, 12), false);
    due("no such square", x.buyer(0, -1, 0), false);
    due("no such square", x.buyer(0, 0, -1), false);
    due("as it was", x.worth(0, 3, 3, 0), 100);
  }

  private static void worth() {
    promise(20);
    ShadeTown x = under("u(t=9);w100*i+10*d+s(t=9);w7(m=1)");
    x.buyer(2, 4, 4);
    x.awning(6, 1, 1, 0, 0);
    due("worth", x.worth(2, 6, 1, 9), 251);
    due("worth", x.worth(2, 4, 4, 9), 200);
    due("worth", x.worth(2, 4, 4, 8), 0);
    x.season(1);
    due("worth", x.worth(2, 4, 4, 8), 7);
    due("not told", x.worth(1, 4, 4, 8), -1);
    due("no such one", x.worth(8, 4, 4, 8), -1);
    due("no such one", x.worth(-1, 4, 4, 8), -1);
    due("no such square", x.worth(2, 12, 4, 8), -1);
    due("no such square", x.worth(2, 4, -1, 8), -1);
    due("no such hour", x.worth(2, 4, 4, 24), -1);
    due("no such hour", x.worth(2, 4, 4, -1), -1);
  }

  private static void sale() {
    promise(21);
    // squares 0, 1, 2 are in shade; buyers 0 and 1 want 0 most
    ShadeTown x = under("u(t=12);w50-x*9(i=0);w60-x*40(i=1);w5(1=1)");
    x.awning(0, 0, 3, 1, 0);
    x.buyer(0, 0, 0);
    x.buyer(1, 0, 0);
    x.buyer(4, 0, 0);
    due("one alone", x.sale(12, 1, -1), 50);
    due("one alone", x.sale(12, 1, 0), 0);
    due("one alone pays nothing", x.sale(12, 1, 10), 0);
    // 0 on 1 (41) and 1 on 0 (60)
    due("two", x.sale(12, 3, -1), 101);
    due("two", x.sale(12, 3, 0), 1);
    due("two", x.sale(12, 3, 1), 0);
    due("what 0 costs the other", x.sale(12, 3, 10), 0);
    due("what 1 costs the other", x.sale(12, 3, 11), 9);
    due("three", x.sale(12, 19, -1), 106);
    due("three", x.sale(12, 19, 4), 2);
    due("three", x.sale(12, 19, 14), 0);
    x.buyer(7, 0, 0);
    due("four on three squares", x.sale(12, 147, -1), 106);
    due("the lower one gets it", x.sale(12, 147, 4), 2);
    due("none", x.sale(12, 147, 7), 144);
    due("none pays nothing", x.sale(12, 147, 17), 0);
    due("4 keeps 7 from 5", x.sale(12, 147, 14), 5);
    due("by night", x.sale(11, 3, -1), 0);
    due("by night", x.sale(11, 3, 0), 144);
    due("by night", x.sale(11, 3, 10), 0);
    due("one is not told", x.sale(12, 5, -1), -2);
    due("one is not told", x.sale(12, 5, 0), -2);
    due("none of them", x.sale(12, 3, 4), -3);
    due("none of them", x.sale(12, 3, 14), -3);
    due("none of them comes first", x.sale(12, 4, 0), -3);
    due("empty", x.sale(12, 0, -1), -3);
    due("no such bits", x.sale(12, 256, -1), -3);
    due("no such bits", x.sale(12, -1, -1), -3);
    due("no such hour", x.sale(24, 1, -1), -3);
    due("no such hour", x.sale(-1, 1, -1), -3);
    due("no such what", x.sale(12, 1, 8), -3);
    due("no such what", x.sale(12, 1, 9), -3);
    due("no such what", x.sale(12, 1, 18), -3);
    due("no such what", x.sale(12, 1, -2), -3);
    // nothing is worth anything: still the least row
    lawOf(x, "u(t=12)");
    due("like ones", x.sale(12, 147, 0), 0);
    due("like ones", x.sale(12, 147, 1), 1);
    due("like ones", x.sale(12, 147, 4), 2);
    due("like ones", x.sale(12, 147, 7), 144);
    // a house on one of them
    x.caster(0, 1, 0, 1, 0);
    due("a house", x.sale(12, 147, 1), 2);
    saleOfMany();
  }

  private static void saleOfMany() {
    ShadeTown x = under("u(t=12);wx(1=1)");
    for (int k = 0; k < 4; k++) {
      x.awning(3 * k, 0, 3, 1, 0);
    }
    for (int i = 0; i < 8; i++) {
      x.buyer(i, 0, 5);
    }
    // the squares 4 to 11 are worth most, in the order of the buyers
    due("all eight", x.sale(12, 255, -1), 60);
    for (int i = 0; i < 8; i++) {
      due("square of " + i, x.sale(12, 255, i), 4 + i);
      due("pays " + i, x.sale(12, 255, 10 + i), i);
    }
    lawOf(x, "u(t=12);w9(1=1)");
    due("all are like", x.sale(12, 255, -1), 72);
    for (int i = 0; i < 8; i++) {
      due("square of " + i, x.sale(12, 255, i), i);
    }
    // buyer 7 alone wants 0, the others 11 and 10 by turns
    lawOf(x, "u(t=12);w500(i=7&x=0);w0(i=7);w999(x=11);w100+i(x=10);w1(x=9&i=2)");
    due("wants apart", x.sale(12, 255, -1), 999 + 106 + 500 + 1);
    int[] row = {1, 2, 9, 3, 4, 11, 10, 0};
    for (int i = 0; i < 8; i++) {
      due("the least row, " + i, x.sale(12, 255, i), row[i]);
    }
    due("pays nothing for what is worth nothing", x.sale(12, 255, 10), 0);
    due("pays the 999 of another", x.sale(12, 255, 15), 999);
    due("pays what 5 would give", x.sale(12, 255, 16), 105);
    due("nobody else wants it", x.sale(12, 255, 17), 0);
  }

  private static void wish() {
    promise(22);
    ShadeTown x = under("u(1=1)");
    due("a wish", x.wish(0, 0, 0, 0, 24, true, 99), true);
    due("a wish", x.wish(15, 11, 11, 23, 24, false, 1), true);
    due("told", x.count(7), 0x8001);
    due("happy", x.happy(), 24 * 99);
    due("in place of the one before", x.wish(0, 0, 0, 3, 5, true, 2), true);
    due("in place of the one before", x.happy(), 4);
    int[][] bad = {{-1, 0, 0, 0, 1, 1}, {16, 0, 0, 0, 1, 1}, {0, -1, 0, 0, 1, 1}, {0, 12, 0, 0, 1, 1}, {0, 0, -1, 0, 1, 1},
        {0, 0, 12, 0, 1, 1}, {0, 0, 0, -1, 1, 1}, {0, 0, 0, 5, 5, 1}, {0, 0, 0, 6, 5, 1}, {0, 0, 0, 5, 25, 1},
        {0, 0, 0, 24, 25, 1}, {0, 0, 0, 0, 1, 0}, {0, 0, 0, 0, 1, 100}};
    for (int[] b : bad) {
      due("no such ones", x.wish(b[0], b[1], b[2], b[3], b[4], true, b[5]), false);
    }
    due("as it was", x.happy(), 4);
    due("as it was", x.count(7), 0x8001);
  }

  private static void kept() {
    promise(23);
    ShadeTown x = under(SUN);
    x.caster(0, 5, 5, 12, 0);
    x.wish(0, 6, 5, 4, 14, false, 9);
    x.wish(1, 6, 5, 4, 14, true, 9);
    x.wish(2, 5, 5, 0, 24, true, 9);
    x.wish(3, 5, 5, 0, 24, false, 9);
    due("shade from 6 to 11", x.kept(0), 6);
    due("sun at 12 and 13", x.kept(1), 2);
    due("not free", x.kept(2), 0);
    due("not free", x.kept(3), 0);
    x.down(0);
    due("free then", x.kept(2), 13);
    due("no shade", x.kept(0), 0);
    due("not told", x.kept(4), -1);
    due("no such one", x.kept(16), -1);
    due("no such one", x.kept(-1), -1);
  }

  private static void happy() {
    promise(24);
    ShadeTown x = under(SUN);
    due("nobody", x.happy(), 0);
    x.caster(0, 5, 5, 12, 0);
    x.wish(0, 6, 5, 4, 14, false, 9);
    due("shade", x.happy(), 54);
    x.wish(1, 6, 5, 4, 14, true, 4);
    due("shade and sun", x.happy(), 62);
    x.wish(2, 6, 6, 0, 6, true, 4);
    due("by night nothing is kept", x.happy(), 62);
  }

  private static void storey() {
    promise(25);
    ShadeTown x = under(SUN);
    x.caster(0, 2, 5, 12, 0);
    x.caster(3, 0, 0, 12, 0);
    x.wish(0, 6, 5, 0, 24, false, 5);
    x.wish(1, 7, 5, 0, 24, true, 3);
    x.wish(2, 9, 5, 0, 24, false, 3);
    // 24 high: 3 to 8 in the six hours from 6 to 11
    due("shade", x.storey(0, 0), 30);
    due("sun", x.storey(0, 1), 18);
    due("it stays as it was", x.casterIs(0, 2), 12);
    due("it stays as it was", x.kept(0), 0);
    due("a post", x.storey(1, 0), -100000);
    due("none", x.storey(2, 0), -100000);
    due("none", x.storey(-1, 0), -100000);
    due("no such what", x.storey(0, 2), -100000);
    due("no such what", x.storey(0, -1), -100000);
    // 99 at most: with 1 to the east per 12, 97 casts 8, 99 casts 8, 109 would cast 9
    lawOf(x, "u(t=12);e1(1=1)");
    x.caster(0, 0, 9, 97, 0);
    x.wish(3, 9, 9, 12, 13, false, 1);
    due("99 at most", x.storey(2, 0), 0);
    x.wish(3, 8, 9, 12, 13, false, 1);
    due("kept before", x.storey(2, 0), 0);
    x.down(0);
    due("gone", x.storey(0, 0), -100000);
    // 13 high with 9 to the east: 9 squares and no tenth
    x = under("u(t=12);e9(1=1)");
    x.caster(0, 0, 0, 1, 0);
    x.wish(0, 10, 0, 0, 24, false, 7);
    due("not the tenth", x.storey(0, 0), 0);
    x.wish(0, 9, 0, 0, 24, false, 7);
    due("the ninth", x.storey(0, 0), 7);
    // on a house nothing is kept
    x = under("u(t=12);e1(1=1)");
    x.caster(0, 0, 0, 12, 0);
    x.caster(0, 2, 0, 1, 0);
    x.wish(0, 2, 0, 0, 24, false, 7);
    due("a house there", x.storey(0, 0), 0);
  }

  private static void bestAwning() {
    promise(26);
    ShadeTown x = under("u(t<10)");
    due("the lowest", x.bestAwning(3, 0), 0);
    due("the lowest", x.bestAwning(3, 1), 0);
    due("the lowest", x.bestAwning(3, 2), 0);
    x.wish(0, 5, 5, 0, 24, false, 2);
    x.wish(1, 5, 4, 0, 24, false, 3);
    x.wish(2, 5, 6, 0, 24, true, 1);
    // one: on 5, 4: 30 and the sun's 10
    due("one", x.bestAwning(1, 0), 53);
    due("one", x.bestAwning(1, 2), 40);
    // two: from 5, 4 to the north: 50 and 10
    due("two", x.bestAwning(2, 0), 53);
    due("two", x.bestAwning(2, 1), 0);
    due("two", x.bestAwning(2, 2), 60);
    // three: from 5, 3 to the north
    due("three", x.bestAwning(3, 0), 41);
    due("three", x.bestAwning(3, 1), 0);
    due("three", x.bestAwning(3, 2), 60);
    // a house at its beginning is not free, but it may go over one
    x.caster(0, 5, 3, 1, 0);
    due("from 5, 5 to the south", x.bestAwning(3, 0), 65);
    due("from 5, 5 to the south", x.bestAwning(3, 1), 2);
    x.caster(0, 5, 4, 1, 0);
    due("a house where it was wished", x.bestAwning(1, 0), 65);
    due("a house where it was wished", x.bestAwning(1, 2), 30);
    x.awning(5, 5, 1, 0, 0);
    due("in shade already", x.bestAwning(1, 2), 30);
    due("in shade already", x.bestAwning(1, 0), 0);
    due("no such length", x.bestAwning(0, 0), -1);
    due("no such length", x.bestAwning(4, 0), -1);
    due("no such what", x.bestAwning(1, 3), -1);
    due("no such what", x.bestAwning(1, -1), -1);
    for (int c = 3; c < 16; c++) {
      x.caster(1, 0, 11, 1, 0);
    }
    x.wish(3, 0, 1, 0, 24, false, 1);
    due("though 16 are there", x.bestAwning(1, 0), 12);
    due("nothing was built", x.count(0), 16);
  }

  private static void hat() {
    promise(27);
    ShadeTown x = under("u(t<10);e1(1=1)");
    x.caster(3, 0, 0, 24, 0);
    x.awning(2, 0, 2, 1, 0);
    x.caster(0, 9, 9, 1, 0);
    // it casts on 1, 0 and (with the awning) 2, 0
    due("gets", x.hat(0, 5, 5, 0), 20);
    due("loses", x.hat(0, 5, 5, 1), 10);
    due("where it is", x.hat(0, 0, 0, 0), 0);
    due("where it is", x.hat(0, 0, 0, 1), 0);
    due("one on", x.hat(0, 1, 0, 0), 0);
    due("one on", x.hat(0, 1, 0, 1), 10);
    due("over a house", x.hat(0, 8, 9, 0), 10);
    due("out of the town", x.hat(0, 11, 0, 0), 0);
    due("it stays", x.casterIs(0, 1), 0);
    due("it stays", x.shade(1, 0, 0), 1);
    due("not free", x.hat(0, 9, 9, 0), -1);
    due("no such square", x.hat(0, 12, 0, 0), -1);
    due("no such square", x.hat(0, 0, -1, 0), -1);
    due("an awning", x.hat(1, 0, 0, 0), -1);
    due("a house", x.hat(2, 0, 0, 0), -1);
    due("none", x.hat(3, 0, 0, 0), -1);
    due("none", x.hat(-1, 0, 0, 0), -1);
    due("no such what", x.hat(0, 0, 0, 2), -1);
    due("no such what", x.hat(0, 0, 0, -1), -1);
    x.down(0);
    due("gone", x.hat(0, 0, 0, 0), -1);
  }

  private static void takenDown() {
    promise(28);
    ShadeTown x = under(SUN);
    due("nothing", x.takenDown(), 0);
    x.caster(0, 5, 5, 12, 0);
    x.caster(1, 7, 5, 1, 0);
    x.caster(3, 9, 5, 12, 0);
    x.wish(0, 7, 5, 0, 24, false, 5);
    due("wishes for shade don't matter", x.takenDown(), 0);
    x.wish(1, 7, 5, 12, 13, true, 5);
    due("the tree at noon", x.takenDown(), 2);
    x.wish(1, 7, 5, 11, 13, true, 5);
    due("the house, too", x.takenDown(), 3);
    x.wish(1, 7, 5, 0, 24, true, 5);
    due("the post, too", x.takenDown(), 7);
    x.wish(1, 7, 5, 0, 6, true, 5);
    due("by night", x.takenDown(), 0);
    // a house keeps its square from being free
    x.wish(1, 7, 5, 12, 13, true, 5);
    x.caster(0, 7, 5, 1, 0);
    due("a house on it", x.takenDown(), 0);
    // that house must go for another wish: then its square is free, and the tree there must go, too
    x = under("u(t=12);e3(1=1)");
    x.caster(0, 5, 5, 12, 0);
    x.caster(1, 5, 5, 1, 0);
    x.awning(5, 5, 1, 0, 0);
    x.caster(0, 4, 5, 1, 0);
    x.wish(0, 5, 5, 12, 13, true, 1);
    due("the house stays", x.takenDown(), 0);
    x.wish(1, 8, 5, 12, 13, true, 1);
    due("the house goes", x.takenDown(), 7);
    x.caster(0, 3, 5, 12, 0);
    due("who reaches it then", x.takenDown(), 16 + 7);
    due("nothing is done", x.count(1), 31);
  }

  private static void noon() {
    promise(29);
    ShadeTown x = under("u(t=12)");
    x.awning(0, 0, 3, 1, 0);
    for (int i = 0; i < 8; i += 2) {
      x.buyer(i, 0, 0);
    }
    // buyers 0 2 4 6 and three places: 0 2 4, then 6 0 2, then 4 6 0
    due("one day", x.noon(1, 6), 0);
    due("one day", x.noon(1, 4), 1);
    due("two days", x.noon(2, 0), 2);
    due("two days", x.noon(2, 4), 1);
    due("three days", x.noon(3, 0), 3);
    due("three days", x.noon(3, 2), 2);
    due("three days", x.noon(3, 6), 2);
    due("sixty days", x.noon(60, 6), 45);
    x.awning(0, 1, 3, 1, 0);
    due("more places than buyers", x.noon(60, 6), 60);
    x.down(0);
    x.down(1);
    due("no places", x.noon(60, 0), 0);
    x.awning(0, 1, 1, 1, 0);
    x.caster(0, 0, 1, 1, 0);
    due("not free", x.noon(60, 0), 0);
    due("no such n", x.noon(0, 0), -1);
    due("no such n", x.noon(61, 0), -1);
    due("no such n", x.noon(-1, 0), -1);
    due("not told", x.noon(1, 1), -1);
    due("no such one", x.noon(1, 8), -1);
    due("no such one", x.noon(1, -1), -1);
  }

  private static void years() {
    promise(30);
    ShadeTown x = under("g1+o+m*2(h<20);g3(h>89);g9+t+x+y+s+i+d(h=50)");
    x.caster(1, 5, 5, 19, 4);
    x.caster(1, 5, 6, 94, 0);
    x.caster(1, 5, 7, 50, 0);
    x.caster(0, 5, 8, 50, 0);
    x.caster(3, 5, 9, 50, 0);
    x.caster(1, 5, 9, 50, 0);
    x.down(5);
    x.season(1);
    due("a year", x.years(1), 7 + 3 + 9);
    due("o and m", x.casterIs(0, 2), 26);
    due("h", x.casterIs(1, 2), 97);
    due("the rest is not told", x.casterIs(2, 2), 59);
    due("no tree", x.casterIs(3, 2), 50);
    due("no tree", x.casterIs(4, 2), 50);
    due("gone", x.casterIs(5, 2), 50);
    due("99 at most", x.years(60), 2);
    due("99 at most", x.casterIs(1, 2), 99);
    due("no more", x.years(1), 0);
    due("no such n", x.years(0), -1);
    due("no such n", x.years(61), -1);
    due("no such n", x.years(-5), -1);
    // year by year: 10, 11, .. till it is 20
    x = under("g1(h<20)");
    x.caster(1, 0, 0, 10, 0);
    due("year by year", x.years(60), 10);
    x = under("g1+t+x+y+s+i+d(1=1)");
    x.season(2);
    x.caster(1, 5, 5, 10, 0);
    due("what is not told", x.years(1), 1);
    // it casts farther then
    x = under("u(1=1);e2(1=1);g6(1=1)");
    x.caster(1, 0, 0, 6, 0);
    due("before", x.cast(0, 0), 2);
    x.years(1);
    due("farther", x.cast(0, 0), 3);
  }

  private static void days() {
    promise(31);
    // X from 1: 39022, 61087, 20196, 45005, ...
    ShadeTown x = under("u(t<3);c2(t=0);c3(t=1);c7(t=2);p10+t(1=1)");
    x.awning(0, 0, 2, 1, 3);
    x.awning(0, 0, 1, 1, 3);
    x.awning(0, 0, 1, 1, 5);
    // draws 2, 7, 6 against 2, 3, 7: hours 0 and 1 are clear
    // hour 0: square 0 brings 3 to each of three, square 1 brings 10; hour 1: 3 each, 11
    due("a day", x.days(1), 9 + 10 + 9 + 11);
    due("two parts", x.purse(3), 6 + 10 + 6 + 11);
    due("one part", x.purse(5), 6);
    int drawn = 1;
    for (int k = 0; k < 24; k++) {
      drawn = (int) ((25173L * drawn + 13849L) % 65536L);
    }
    due("X goes on in each hour", x.count(5), drawn);
    due("no such n", x.days(0), -1);
    due("no such n", x.days(31), -1);
    due("no such n", x.days(-1), -1);
    due("nothing is changed", x.count(5), drawn);
    // with no sun nothing comes, but X goes on
    x = new ShadeTown();
    due("no sun", x.days(30), 0);
    drawn = 1;
    for (int k = 0; k < 720; k++) {
      drawn = (int) ((25173L * drawn + 13849L) % 65536L);
    }
    due("X", x.count(5), drawn);
    // a house lets nothing come
    x = under("u(1=1);p5(1=1)");
    x.awning(0, 0, 2, 1, 0);
    due("two squares", x.days(2), 480);
    x.caster(0, 0, 0, 1, 0);
    due("one square", x.days(1), 120);
  }

  private static void purse() {
    promise(32);
    ShadeTown x = under("u(t=0);p5(1=1)");
    x.awning(0, 0, 1, 0, 0);
    x.awning(1, 0, 2, 0, 5);
    x.days(3);
    due("purse", x.purse(0), 15);
    due("purse", x.purse(5), 30);
    due("purse", x.purse(1), 0);
    x.down(0);
    due("it stays", x.purse(0), 15);
    due("no such one", x.purse(6), -1);
    due("no such one", x.purse(-1), -1);
  }

  private static void odds() {
    promise(33);
    ShadeTown x = under("u(t>0);c5(t<2);c4(t=2);c1(t>2)");
    due("the night does not matter", x.odds(0, 1, 0), 1);
    due("the night does not matter", x.odds(0, 1, 1), 1);
    due("a half", x.odds(0, 2, 0), 1);
    due("a half", x.odds(0, 2, 1), 2);
    due("3 of 10", x.odds(1, 3, 0), 3);
    due("3 of 10", x.odds(1, 3, 1), 10);
    long nines = 1;
    long tens = 1;
    for (int k = 0; k < 18; k++) {
      nines *= 9;
      tens *= 10;
    }
    due("18 hours", x.odds(6, 24, 0), nines);
    due("18 hours", x.odds(6, 24, 1), tens);
    due("19 hours", x.odds(5, 24, 0), -1);
    due("no hours", x.odds(5, 5, 0), -1);
    due("behind the day", x.odds(20, 25, 0), -1);
    due("ahead of the day", x.odds(-1, 5, 0), -1);
    due("no such what", x.odds(1, 5, 2), -1);
    due("no such what", x.odds(1, 5, -1), -1);
    lawOf(x, "u(1=1);c10(t=7)");
    due("always clouds", x.odds(5, 9, 0), 0);
    due("always clouds", x.odds(5, 9, 1), 1);
    due("never", x.odds(8, 20, 0), 1);
    due("never", x.odds(8, 20, 1), 1);
  }

  private static void seed() {
    promise(34);
    ShadeTown x = under("u(t=0);c5(1=1);p5(1=1)");
    x.awning(0, 0, 1, 0, 0);
    due("seed", x.seed(0), true);
    due("X, too", x.count(5), 0);
    // from 0: 13849, by which it is clear; from 65535: 54212, which is clouded
    due("clear", x.days(1), 5);
    due("seed", x.seed(65535), true);
    due("X, too", x.count(5), 65535);
    due("clouded", x.days(1), 0);
    x.seed(7);
    due("no such number", x.seed(65536), false);
    due("no such number", x.seed(-1), false);
    due("it stays", x.count(5), 7);
  }

  private static void keep() {
    promise(35);
    ShadeTown x = new ShadeTown();
    due("none stands", x.keep(), 0);
    x.caster(0, 0, 0, 1, 0);
    x.caster(1, 0, 0, 1, 0);
    x.awning(0, 0, 1, 0, 0);
    due("three stand", x.keep(), 3);
    x.down(1);
    due("two stand", x.keep(), 2);
    x.down(0);
    x.undo();
    due("as it was last", x.count(1), 5);
  }

  private static void undo() {
    promise(36);
    ShadeTown x = under("u(m=1);p5(1=1);g1(1=1)");
    due("none was kept", x.undo(), false);
    x.season(1);
    x.caster(0, 0, 0, 1, 0);
    x.caster(1, 3, 3, 5, 1);
    x.caster(3, 4, 4, 5, 2);
    x.days(1);
    int drawn = x.count(5);
    int purse = x.purse(1);
    due("a day", purse, 120);
    x.buyer(0, 0, 0);
    x.keep();
    x.season(2);
    x.years(3);
    x.move(2, 7, 7);
    x.down(0);
    x.caster(0, 0, 0, 7, 3);
    x.season(1);
    x.days(2);
    x.season(2);
    x.buyer(1, 0, 0);
    x.wish(0, 3, 3, 0, 24, false, 1);
    lawOf(x, "u(m=1);p9(1=1)");
    tape(x, "abc");
    due("undone", x.undo(), true);
    due("casters", x.count(0), 3);
    due("standing", x.count(1), 7);
    due("heights", x.casterIs(1, 2), 5);
    due("squares", x.casterIs(2, 1), 52);
    due("season", x.count(4), 1);
    due("X", x.count(5), drawn);
    due("purse", x.purse(1), purse);
    due("the law stays", x.count(2), 2);
    due("buyers stay", x.count(6), 2);
    due("wishes stay", x.count(7), 1);
    due("the tape stays", x.count(3), 20);
    due("shade is as it was", x.shade(3, 3, 0), 2);
    due("happy by it", x.happy(), 24);
    due("the next caster", x.caster(0, 1, 1, 1, 1), 3);
    due("once more", x.undo(), true);
    due("once more", x.count(0), 3);
  }

  private static void check() {
    promise(37);
    ShadeTown x = under("u(t=12)");
    x.awning(1, 4, 3, 1, 0);
    x.caster(1, 2, 4, 1, 0);
    // 0 1 2 1 0 ..
    x.feed(0, 1, 2, 1, 0);
    due("right", x.check(12, 4, 5), -1);
    due("the tape is empty", x.count(3), 0);
    x.feed(0, 1, 2, 1, 1);
    due("four are right", x.check(12, 4, 4), -1);
    due("all the tape is empty", x.count(3), 0);
    x.feed(0, 1, 2, 1, 1);
    due("the fifth is not", x.check(12, 4, 5), 4);
    x.feed(1, 9, 9, 9, 9);
    due("the first is not", x.check(12, 4, 5), 0);
    due("the tape is empty", x.count(3), 0);
    x.feed(0, 1, 2, 1, 0);
    x.feed(0, 0, 0, 0, 0);
    x.feed(0, 0, 0, 0, 0);
    due("thirteen", x.check(12, 4, 13), -2);
    due("below 0", x.check(12, 4, -1), -2);
    due("no such hour", x.check(24, 4, 1), -2);
    due("no such hour", x.check(-1, 4, 1), -2);
    due("no such row", x.check(12, 12, 1), -2);
    due("no such row", x.check(12, -1, 1), -2);
    due("the tape stays", x.count(3), 60);
    due("twelve", x.check(12, 4, 12), -1);
    x.feed(0, 0, 0, 0, 0);
    due("it has not so many", x.check(12, 4, 6), -2);
    due("the tape stays", x.count(3), 20);
    due("none at all", x.check(12, 4, 0), -1);
    due("the tape is empty", x.count(3), 0);
    x.feed(256, 0, 0, 0, 0);
    due("all four bytes", x.check(12, 4, 1), 0);
    x.feed(0x01000000, 0, 0, 0, 0);
    due("all four bytes", x.check(12, 4, 1), 0);
    x.feed(0x00010000, 0, 0, 0, 0);
    due("all four bytes", x.check(12, 4, 1), 0);
  }

  private static void count() {
    promise(38);
    ShadeTown x = under("u(1=1);c1(1=1);p1(1=1)");
    x.caster(0, 0, 0, 1, 0);
    x.caster(0, 1, 0, 1, 0);
    x.caster(1, 1, 0, 1, 0);
    x.down(0);
    x.season(3);
    x.seed(77);
    x.buyer(6, 0, 0);
    x.buyer(2, 0, 0);
    x.buyer(2, 1, 0);
    x.wish(4, 0, 0, 0, 1, true, 1);
    x.wish(0, 0, 0, 0, 1, true, 1);
    x.feed(0, 0, 0, 0, 0);
    int[] want = {3, 6, 3, 20, 3, 77, 2, 17, 143};
    for (int what = 0; what < want.length; what++) {
      due("count(" + what + ")", x.count(what), want[what]);
    }
    due("no such what", x.count(9), -1);
    due("no such what", x.count(-1), -1);
    due("no such what", x.count(Integer.MIN_VALUE), -1);
  }
}
