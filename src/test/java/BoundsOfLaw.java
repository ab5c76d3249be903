// Promises 1 to 3: a new object, the tape, THE LAW; each sentence that names a bound, on both sides of it.
public final class BoundsOfLaw extends TownTest {
  public static void main(String[] args) {
    nothingAtFirst();
    seedAtFirst();
    memoryOfItsOwn();
    twentyBytes();
    tapeOf260();
    lawOfNBytes();
    lawBeyondTheTape();
    lawOf240();
    fullTexts();
    emptyThen();
    inPlaceOfTheOneBefore();
    textBeforeStays();
    whatCanStand();
    theEndToo();
    noBlanks();
    sixteenClauses();
    seventeenthThatCannotStand();
    fiveDigits();
    sixOpenInOneAnother();
    besideOneAnother();
    pieceEnds();
    expressionAhead();
    firstFromTheLeft();
    anyUWillDo();
    firstWhoseConditionHolds();
    boundsOfEachLetter();
    none();
    lettersToldWhere();
    fromTheLeftOn();
    thirtyTwoBits();
    towardZero();
    dividedByZero();
    asMuchAsMatters();
    signsOfPieces();
    end();
  }

  // ---- promise 1

  private static void nothingAtFirst() {
    says(1, "No CASTERS, LAW, BUYERS, WISHES; THE SEED 1");
    ShadeTown x = new ShadeTown();
    int[] counts = {0, 0, 0, 0, 0, 1, 0, 0, 144};
    for (int what = 0; what < 9; what++) {
      due("count(" + what + ")", x.count(what), counts[what]);
    }
    for (int what = 0; what < 6; what++) {
      due("casterIs(0, " + what + ")", x.casterIs(0, what), NONE);
    }
    for (int hour = 0; hour < 24; hour++) {
      for (int what = 0; what < 4; what++) {
        due("sun(" + hour + ", " + what + ")", x.sun(hour, what), 0);
      }
    }
    for (int i = 0; i < 8; i++) {
      due("worth", x.worth(i, 0, 0, 0), NONE);
      due("noon", x.noon(1, i), NONE);
      due("sale", x.sale(0, 1 << i, NONE), -2);
    }
    for (int k = 0; k < 16; k++) {
      due("kept(" + k + ")", x.kept(k), NONE);
      due("down(" + k + ")", x.down(k), false);
    }
    for (int owner = 0; owner < 6; owner++) {
      due("purse(" + owner + ")", x.purse(owner), 0);
      due("led above", x.led(owner, 0), 0);
      due("led below", x.led(owner, 1), 1);
    }
    due("happy()", x.happy(), 0);
    due("takenDown()", x.takenDown(), 0);
    due("undo()", x.undo(), false);
    due("price", x.price(0, 0, 0), 0);
    due("shade", x.shade(0, 0, 0), 0);
    due("years(60)", x.years(60), 0);
    due("odds above", x.odds(0, 18, 0), 1);
    due("odds below", x.odds(0, 18, 1), 1);
  }

  private static void seedAtFirst() {
    says(1, "X is THE SEED at first, 1");
    ShadeTown x = new ShadeTown();
    ShadeTown seeded = new ShadeTown();
    seeded.seed(1);
    x.days(3);
    seeded.days(3);
    due("X as from the seed 1", x.count(5), seeded.count(5));
  }

  private static void memoryOfItsOwn() {
    says(1, "All memory is the town's own");
    ShadeTown one = new ShadeTown();
    ShadeTown other = whole();
    other.keep();
    other.years(3);
    sameAs("another town", one, new ShadeTown());
  }

  // ---- promise 2

  private static void twentyBytes() {
    says(2, "Twenty bytes come behind the tape, the highest of each int first");
    ShadeTown x = new ShadeTown();
    due("feed", x.feed(0x7528313D, 0x31293B63, 0x3528313D, 0x313B6161, 0x61616161), 20);
    due("u(1=1);c5(1=1; is a fault at its ;", x.law(20), -1013);
    due("feed", x.feed(0x7528313D, 0x31293B63, 0x3528313D, 0x31296161, 0x61616161), 20);
    due("u(1=1);c5(1=1)", x.law(14), 2);
    due("c", x.sun(0, 3), 5);
    due("a byte above 127 in front", x.feed(0x80000000, 0, 0, 0, 0), 20);
    due("a byte above 127 in front", x.law(1), -1000);
    due("feed", x.feed(0, 0, 0, 0, 0x80000001), 20);
    due("the fifth is a number below 0", x.check(0, 0, 5), 4);
    x.feed(0, 0, 0, 0, 0);
    due("behind what is there", x.feed(1, 0, 0, 0, 0), 40);
    due("the sixth is 1", x.check(0, 0, 10), 5);
  }

  private static void tapeOf260() {
    says(2, "NONE if that would be more than 260");
    ShadeTown x = new ShadeTown();
    for (int k = 1; k <= 13; k++) {
      due("feed " + k, x.feed(0, 0, 0, 0, 0), 20 * k);
    }
    due("the 14th", x.feed(1, 1, 1, 1, 1), NONE);
    due("the tape", x.count(3), 260);
    due("its numbers", x.check(0, 0, 12), NONE);
    due("empty then", x.feed(1, 1, 1, 1, 1), 20);
    Maker filled = () -> {
      ShadeTown town = whole();
      for (int k = 0; k < 10; k++) {
        town.feed(9, 9, 9, 9, 9);
      }
      return town;
    };
    due("a whole town's tape", filled.make().count(3), 260);
    refused("feed", filled, town -> town.feed(1, 2, 3, 4, 5), NONE);
  }

  // ---- promise 3

  /** A town whose tape holds a text, filled up to whole twenties. */
  private static Maker taped(String text) {
    return () -> {
      ShadeTown x = wholeWithoutTape();
      tape(x, text);
      return x;
    };
  }

  private static void lawOfNBytes() {
    says(3, "by the first n bytes of the tape (1 to 240)");
    Maker maker = taped("u(1=1);c5(1=1)");
    taken("law(1)", maker, x -> x.law(1), -1001);
    taken("law(6)", maker, x -> x.law(6), 1);
    taken("law(7)", maker, x -> x.law(7), -1007);
    taken("law(14)", maker, x -> x.law(14), 2);
    refused("law(0)", maker, x -> x.law(0), NONE);
    refused("law(-1)", maker, x -> x.law(-1), NONE);
    refused("law of the least", maker, x -> x.law(LEAST), NONE);
    refused("law of the most", maker, x -> x.law(MOST), NONE);
  }

  private static void lawBeyondTheTape() {
    says(3, "NONE: it has not so many (the tape stays)");
    Maker maker = taped("u(1=1)" + times("+", 14));
    taken("law(20)", maker, x -> x.law(20), -1006);
    refused("law(21)", maker, x -> x.law(21), NONE);
    refused("law(1) of none", () -> wholeWithoutTape(), x -> x.law(1), NONE);
    Maker longer = taped("u(1=1)" + times("+", 34));
    taken("law(40)", longer, x -> x.law(40), -1006);
    refused("law(41)", longer, x -> x.law(41), NONE);
  }

  private static void lawOf240() {
    says(3, "a TEXT of at most 240 bytes");
    String right = "u(1=1);c" + times("0+", 112) + "007(1=1)";
    due("length", right.length(), 240);
    Maker maker = taped(right + times("a", 20));
    due("the tape", maker.make().count(3), 260);
    taken("law(239)", maker, x -> x.law(239), -1239);
    taken("law(240)", maker, x -> x.law(240), 2);
    refused("law(241)", maker, x -> x.law(241), NONE);
    refused("law(260)", maker, x -> x.law(260), NONE);
    ShadeTown x = maker.make();
    x.law(240);
    due("its last factor", x.sun(0, 3), 7);
    ShadeTown exact = taped(right).make();
    due("the tape", exact.count(3), 240);
    due("law(240) of 240", exact.law(240), 2);
  }

  private static void fullTexts() {
    says(3, "a TEXT of at most 240 bytes: all of it is asked");
    String[] between = {"&", "|"};
    for (int k = 0; k < 2; k++) {
      for (int last = 7; last <= 8; last++) {
        int ahead = k == 0 ? 7 : 8;
        String text = "u(" + times("t=" + ahead + between[k], 58) + "t=00" + last + ")";
        due("length", text.length(), 240);
        ShadeTown x = new ShadeTown();
        due("59 pieces", lawOf(x, text), 1);
        due("59 pieces, the last is t=" + last, x.sun(7, 0), last == 7 ? 1 : 0);
      }
    }
    String clauses = times("ct(t=1);", 15) + "ct(" + times("t<9&", 28) + "t=5)";
    due("length", clauses.length(), 239);
    ShadeTown x = new ShadeTown();
    due("16 clauses", lawOf(x, clauses), 16);
    due("the 16th", x.sun(5, 3), 5);
    due("the 16th", x.sun(6, 3), 0);
    // 1 and twice what is inside: 3, 7, 15, 31, 63, 127
    String six = "1+2*[1+2*[1+2*[1+2*[1+2*[1+2*[1]]]]]]";
    due("six [ that all wait", valueOf(under("w" + six + "(1=1)"), "w"), 127);
    String five = "1+2*[1+2*[1+2*[1+2*[1+2*[1]]]]]";
    due("five [ on both sides", holds(five + "=" + five), true);
    due("five [ on both sides", holds(five + "=63&63=" + five), true);
    due("five [ on both sides", holds(five + "=1+" + five), false);
  }

  private static void emptyThen() {
    says(3, "the first n bytes of the tape (empty then)");
    ShadeTown x = new ShadeTown();
    tape(x, "u(1=1)" + times("a", 50));
    due("law(6) of 60", x.law(6), 1);
    due("nothing is left", x.count(3), 0);
    tape(x, "u(1=1)" + times("a", 50));
    due("a fault in 60", x.law(5), -1005);
    due("nothing is left", x.count(3), 0);
    due("feed", x.feed(0, 0, 0, 0, 0), 20);
  }

  private static void inPlaceOfTheOneBefore() {
    says(3, "in place of the one before");
    ShadeTown x = under("u(1=1);e5(1=1);n5(1=1);c5(1=1);p5(1=1);w5(1=1);g5(1=1)");
    x.caster(1, 0, 0, 5, 0);
    x.buyer(0, 0, 0);
    due("e", x.sun(0, 1), 5);
    due("another law", lawOf(x, "c1(1=2)"), 1);
    for (int what = 0; what < 4; what++) {
      due("sun " + what, x.sun(0, what), 0);
    }
    due("p", x.price(0, 0, 0), 0);
    due("w", x.worth(0, 0, 0, 0), 0);
    due("g", x.years(60), 0);
    due("clauses", x.count(2), 1);
    due("the tree by night", x.shade(0, 0, 0), 0);
    // as often as it may be: 30 long texts
    x = new ShadeTown();
    for (int k = 0; k < 30; k++) {
      String text = "u(t=" + k % 10 + ");p" + (10 + k) + "(" + times("t=t&", 55) + "1=1)";
      due("text " + k, lawOf(x, text), 2);
      due("text " + k, x.price(0, 0, k % 10), 10 + k);
      due("text " + k, x.sun(k % 10, 0), 1);
      due("text " + k, x.sun((k + 1) % 10, 0), 0);
    }
  }

  private static void textBeforeStays() {
    says(3, "a FAULT: the TEXT before stays");
    String[] faults = {"e1(1=1);c3(1=1", "u(1=1);e123456(1=1)", times("c9(1=1);", 16) + "u(1=1)", "u(1=1);u(((((((1=1)))))))"};
    int[] answers = {-1014, -2013, -4128, -5014};
    for (int k = 0; k < faults.length; k++) {
      ShadeTown x = wholeWithoutTape();
      due("law of " + faults[k], lawOf(x, faults[k]), answers[k]);
      sameAs("law of " + faults[k], x, wholeWithoutTape());
    }
    ShadeTown x = new ShadeTown();
    due("a fault in the first text", lawOf(x, "u(1=1);u"), -1008);
    sameAs("none at first", x, new ShadeTown());
  }

  // ---- FAULTS

  private static final String DIGITS = "0123456789";
  private static final String LETTERS = "tmxysidho";
  private static final String FACTOR = DIGITS + LETTERS + "[";
  private static final String PIECE = FACTOR + "(!";
  private static final String MORE = "+-*/%";

  private static void whatCanStand() {
    says(3, "FAULTS: 1 what can't stand there");
    String[][] rows = {
        {"", "uencpwg"}, {"u", "("}, {"e", FACTOR}, {"n", FACTOR}, {"c", FACTOR}, {"p", FACTOR}, {"w", FACTOR}, {"g", FACTOR},
        {"e1", DIGITS + MORE + "("}, {"e1234", DIGITS + MORE + "("}, {"et", MORE + "("}, {"e[", FACTOR}, {"e[1", DIGITS + MORE + "]"},
        {"e[t", MORE + "]"}, {"e[1]", MORE + "("}, {"e[[t]", MORE + "]"}, {"et+", FACTOR}, {"et-", FACTOR}, {"et*", FACTOR},
        {"et/", FACTOR}, {"et%", FACTOR}, {"et(", PIECE}, {"u(", PIECE}, {"u((", PIECE}, {"u(!", PIECE}, {"u(!(", PIECE}, {"u(!!", PIECE},
        {"u(1", DIGITS + MORE + "<>="}, {"u(t", MORE + "<>="}, {"u([t", MORE + "]"}, {"u([t]", MORE + "<>="}, {"u(!t", MORE + "<>="},
        {"u((t", MORE + "<>="}, {"u(t+", FACTOR}, {"u(t=", FACTOR}, {"u(t<", FACTOR}, {"u(t>", FACTOR}, {"u(t=1", DIGITS + MORE + "&|)"},
        {"u(t=t", MORE + "&|)"}, {"u(t=[t", MORE + "]"}, {"u(t=[t]", MORE + "&|)"}, {"u(t=t*", FACTOR}, {"u((t=t", MORE + "&|)"},
        {"u((t=t)", "&|)"}, {"u(!t=t", MORE + "&|)"}, {"u(!(t=t)", "&|)"}, {"u(t=t&", PIECE}, {"u(t=t|", PIECE}, {"u((t=t&", PIECE},
        {"u(t=t)", ";"}, {"u((t=t))", ";"}, {"et(t=t)", ";"}, {"u(t=t);", "uencpwg"}};
    for (String[] row : rows) {
      ShadeTown x = new ShadeTown();
      for (int sign = 0; sign < 256; sign++) {
        if (sign % 128 == 0) x = new ShadeTown();
        String text = row[0] + (char) sign;
        boolean stands = row[1].indexOf(sign) >= 0;
        boolean whole = sign == ')' && stands && text.indexOf('(', text.indexOf('(') + 1) < 0 || text.equals("u((t=t))")
            || text.equals("u(!(t=t))");
        int want = !stands ? -1000 - row[0].length() : whole ? 1 : -1000 - text.length();
        due("law of " + row[0] + " and byte " + sign, lawOf(x, text), want);
      }
    }
  }

  private static void theEndToo() {
    says(3, "1 what can't stand there (the end, too)");
    String text = "u(t>5&!t<19|(1=2&[t+m]*3=x%7));e[12-[t]]*2(1=1);w12345(!!(i=3))";
    ShadeTown x = new ShadeTown();
    int clauses = 0;
    int open = 0;
    for (int n = 1; n <= text.length(); n++) {
      char last = text.charAt(n - 1);
      open += last == '(' ? 1 : last == ')' ? -1 : 0;
      boolean ends = last == ')' && open == 0;
      clauses += ends ? 1 : 0;
      tape(x, text);
      due("the first " + n + " of " + text, x.law(n), ends ? clauses : -1000 - n);
    }
    due("all of it", clauses, 3);
  }

  private static void noBlanks() {
    says(3, "no blanks");
    String text = "u(t=1);e[2](!t<3)";
    ShadeTown x = new ShadeTown();
    for (int at = 0; at <= text.length(); at++) {
      due("a blank at " + at, lawOf(x, text.substring(0, at) + " " + text.substring(at)), -1000 - at);
    }
    due("without", lawOf(x, text), 2);
  }

  private static void sixteenClauses() {
    says(3, "CLAUSES (16 at most); 4 a 17th CLAUSE, at its letter");
    ShadeTown x = new ShadeTown();
    due("15", lawOf(x, times("u(t=0);", 14) + "c7(t=1)"), 15);
    due("16", lawOf(x, times("u(t=0);", 15) + "c8(t=1)"), 16);
    due("the 16th holds", x.sun(1, 3), 8);
    due("count(2)", x.count(2), 16);
    for (char letter : "uencpwg".toCharArray()) {
      due("a 17th " + letter, lawOf(x, times("u(t=0);", 16) + letter), -4112);
      due("a 17th " + letter + " and more", lawOf(x, times("u(t=0);", 16) + letter + "(("), -4112);
    }
    due("longer ones", lawOf(x, times("e12(t=0);", 16) + "c9(t=1)"), -4144);
    due("it stays", x.sun(1, 3), 8);
    due("17 and a fault ahead", lawOf(x, times("u(t=0);", 15) + "u(t0);u(t=0)"), -1108);
  }

  private static void seventeenthThatCannotStand() {
    says(3, "4 a 17th CLAUSE, at its letter (if that can stand there)");
    ShadeTown x = new ShadeTown();
    String sixteen = times("u(t=0);", 15) + "u(t=0)";
    due("16", lawOf(x, sixteen), 16);
    due("the end behind a ;", lawOf(x, sixteen + ";"), -1112);
    due("a t", lawOf(x, sixteen + ";t(t=0)"), -1112);
    due("a ;", lawOf(x, sixteen + ";;u"), -1112);
    due("a blank", lawOf(x, sixteen + "; u"), -1112);
    due("no ;", lawOf(x, sixteen + "u(t=0)"), -1111);
    due("a u", lawOf(x, sixteen + ";u"), -4112);
  }

  private static void fiveDigits() {
    says(3, "a number of one to five digits; 2 a sixth digit, at it");
    ShadeTown x = new ShadeTown();
    for (int digits = 1; digits <= 5; digits++) {
      due(digits + " digits", lawOf(x, "w" + times("0", digits - 1) + "7(1=1)"), 1);
      due(digits + " digits in a C", lawOf(x, "u(1=" + times("9", digits) + ")"), 1);
    }
    due("six", lawOf(x, "w000007(1=1)"), -2006);
    due("six at the end", lawOf(x, "w123456"), -2006);
    due("seven", lawOf(x, "w1234567(1=1)"), -2006);
    due("six in a C", lawOf(x, "u(1=123456)"), -2009);
    due("six on the left", lawOf(x, "u(999999=1)"), -2007);
    due("six in a [", lawOf(x, "e[100000](1=1)"), -2007);
    due("six behind five", lawOf(x, "e12345+123456(1=1)"), -2012);
    due("five and five", lawOf(x, "e12345+12345(1=1)"), 1);
    due("what can't stand behind five", lawOf(x, "e12345a(1=1)"), -1006);
    x = under("u(99999=[10000*10]-1);p00009(1=1)");
    due("99999 is that", x.sun(0, 0), 1);
    due("zeros ahead", x.price(0, 0, 0), 9);
    x = under("u(9999=99999/10)");
    due("9999 is that", x.sun(0, 0), 1);
  }

  /** Closes what a row of ( [ ! opened, in a C. */
  private static String closed(String opened) {
    StringBuilder text = new StringBuilder(opened).append("1");
    int at = opened.length() - 1;
    while (at >= 0 && opened.charAt(at) == '[') {
      text.append("]");
      at--;
    }
    text.append("=1");
    for (; at >= 0; at--) {
      text.append(opened.charAt(at) == '(' ? ")" : "");
    }
    return text.toString();
  }

  /** All rows of n of ( [ ! that can stand: behind a [ comes a [ alone. */
  private static String[] rowsOf(int n) {
    StringBuilder all = new StringBuilder();
    for (int row = 0; row < (int) Math.pow(3, n); row++) {
      StringBuilder one = new StringBuilder();
      for (int k = 0, rest = row; k < n; k++, rest /= 3) {
        one.append("([!".charAt(rest % 3));
      }
      if (!one.toString().matches(".*\\[[(!].*")) all.append(one).append(" ");
    }
    return all.toString().trim().split(" ");
  }

  private static void sixOpenInOneAnother() {
    says(3, "5 a seventh of ( [ ! that are open in one another, at it (the ( of the CLAUSE counts)");
    due("rows of five", rowsOf(5).length, 63);
    for (String row : rowsOf(5)) {
      due("six: u(" + row, lawOf(new ShadeTown(), "u(" + closed(row) + ")"), 1);
    }
    for (String row : rowsOf(6)) {
      due("seven: u(" + row, lawOf(new ShadeTown(), "u(" + closed(row) + ")"), -5007);
      due("seven at the end: u(" + row, lawOf(new ShadeTown(), "u(" + row), -5007);
    }
    for (String row : rowsOf(5)) {
      if (row.endsWith("[")) continue;
      due("a [ on the right: " + row, lawOf(new ShadeTown(), "u(" + row + "t=[1]"), -5009);
      due("a [ in a sum: " + row, lawOf(new ShadeTown(), "u(" + row + "t+t*[1]"), -5011);
    }
  }

  private static void besideOneAnother() {
    says(3, "a seventh of ( [ ! that are open in one another");
    ShadeTown x = new ShadeTown();
    due("( beside one another", lawOf(x, "u(" + times("(1=1)&", 12) + "(1=1))"), 1);
    due("[ beside one another", lawOf(x, "u(" + times("[1]+", 12) + "[1]=13)"), 1);
    due("! beside one another", lawOf(x, "u(" + times("!1=2&", 12) + "!1=2)"), 1);
    due("it holds", x.sun(0, 0), 1);
    due("six in the next clause, too", lawOf(x, "u((((((1=1))))));u((((((1=1))))))"), 2);
    due("six in a part, six in the next", lawOf(x, "u((((((1=1)))))|(((((1=1))))))"), 1);
    due("six left and six right", lawOf(x, "u([[[[[1]]]]]=[[[[[1]]]]])"), 1);
    due("six left and seven right", lawOf(x, "u([[[[[1]]]]]=[[[[[[1]]]]]])"), -5019);
  }

  private static void pieceEnds() {
    says(3, "a ! is open till its PIECE ends");
    ShadeTown x = new ShadeTown();
    due("five and five", lawOf(x, "u(!!!!!1=1&!!!!!1=1)"), 1);
    due("five or five", lawOf(x, "u(!!!!!1=1|!!!!!1=1)"), 1);
    due("five and six", lawOf(x, "u(!!!!!1=1&!!!!!!1=1)"), -5016);
    due("four and a [ on its left", lawOf(x, "u(!!!!1+[1]=1)"), 1);
    due("four and a [ on its right", lawOf(x, "u(!!!!1=1+[1])"), 1);
    due("five and a [ on its left", lawOf(x, "u(!!!!!1+[1]=1)"), -5009);
    due("five and a [ on its right", lawOf(x, "u(!!!!!1=1+[1])"), -5011);
    due("five, then a [ in the next piece", lawOf(x, "u(!!!!!1=1&[1]=1)"), 1);
    due("of a ( that ends", lawOf(x, "u(!!!!(1=1)&!!!!(1=1))"), 1);
    due("in a ( of a !", lawOf(x, "u(!!!!(!1=1))"), -5007);
    due("behind a ( of a !", lawOf(x, "u(!!!(1=1&!1=1)&!!!!!1=2)"), 1);
  }

  private static void expressionAhead() {
    says(3, "the E of a CLAUSE stands ahead of it");
    ShadeTown x = new ShadeTown();
    due("six [ and six (", lawOf(x, "e[[[[[[3]]]]]]((((((1=1))))))"), 1);
    due("it is 3", x.sun(0, 1), 3);
    due("seven [", lawOf(x, "e[[[[[[[3]]]]]]](1=1)"), -5007);
    due("seven (", lawOf(x, "e3(((((((1=1)))))))"), -5008);
    due("six [ and then six [", lawOf(x, "e[[[[[[1]]]]]]+[[[[[[2]]]]]](1=1)"), 1);
    due("it is 3", x.sun(0, 1), 3);
    due("six [ and then seven [", lawOf(x, "e[[[[[[1]]]]]]+[[[[[[[2]]]]]]](1=1)"), -5021);
  }

  private static void firstFromTheLeft() {
    says(3, "FAULTS, the first from the left");
    ShadeTown x = new ShadeTown();
    due("2 ahead of 5", lawOf(x, "e123456(((((((1=1)))))))"), -2006);
    due("5 ahead of 2", lawOf(x, "e[[[[[[[123456"), -5007);
    due("1 ahead of 2", lawOf(x, "e1a123456"), -1002);
    due("2 ahead of 1", lawOf(x, "e123456a"), -2006);
    due("5 ahead of 1", lawOf(x, "u(((((((a"), -5007);
    due("1 ahead of 5", lawOf(x, "u((((((a("), -1007);
    due("a ( that can't stand is no seventh", lawOf(x, "e[[[[[[("), -1007);
    due("a ! that can't stand is no seventh", lawOf(x, "u([[[[[!"), -1007);
    due("1 ahead of 4", lawOf(x, times("u(t=0);", 15) + "u(t=);u"), -1109);
    due("4 ahead of 1", lawOf(x, times("u(t=0);", 16) + "ux"), -4112);
  }

  // ---- what THE LAW says

  private static void anyUWillDo() {
    says(3, "the sun is up in an HOUR (any u will do)");
    ShadeTown x = under("u(t=0);c1(1=1);u(1=2);u(t=23)");
    due("the first", x.sun(0, 0), 1);
    due("the last", x.sun(23, 0), 1);
    due("none", x.sun(1, 0), 0);
    due("none", x.sun(22, 0), 0);
  }

  private static void firstWhoseConditionHolds() {
    says(3, "of each the E of the first CLAUSE whose C holds");
    String[] letters = {"e", "n", "c", "p", "w", "g"};
    for (String letter : letters) {
      ShadeTown x = under("u(1=1);" + letter + "1(m=1);" + letter + "2(m>0);" + letter + "3(m<3);" + letter + "4(m=0)");
      int[] want = {3, 1, 2, 2};
      for (int m = 0; m < 4; m++) {
        x.season(m);
        due(letter + " in season " + m, valueOf(x, letter), want[m]);
      }
    }
  }

  /** What a letter's clauses say now, in hour 0 and at square 0; 50 high for g. */
  private static int valueOf(ShadeTown x, String letter) {
    switch (letter) {
      case "e":
        return x.sun(0, 1);
      case "n":
        return x.sun(0, 2);
      case "c":
        return x.sun(0, 3);
      case "p":
        return x.price(0, 0, 0);
      case "w":
        x.buyer(0, 0, 0);
        return x.worth(0, 0, 0, 0);
      default:
        x.caster(1, 0, 0, 50, 0);
        int grown = x.years(1);
        x.down(x.count(0) - 1);
        return grown;
    }
  }

  private static void bound(String letter, int bound) {
    int side = bound > 0 ? 1 : -1;
    for (int v = bound - 1; v <= bound + 1; v++) {
      int want = (v - bound) * side > 0 ? bound : v;
      String e = v < 0 ? "0-" + -v : "" + v;
      due(letter + " of " + e, valueOf(under(letter + e + "(1=1)"), letter), want);
    }
  }

  private static void boundsOfEachLetter() {
    String[] letters = {"e", "n", "c", "p", "w", "g"};
    int[] lows = {-9, -9, 0, 0, 0, 0};
    int[] highs = {9, 9, 10, 99, 999, 9};
    for (int k = 0; k < letters.length; k++) {
      says(3, letters[k] + " (" + lows[k] + " to " + highs[k] + "), beyond its bounds the bound");
      bound(letters[k], lows[k]);
      bound(letters[k], highs[k]);
      due("99999", valueOf(under(letters[k] + "99999(1=1)"), letters[k]), highs[k]);
      due("less 99999", valueOf(under(letters[k] + "0-99999(1=1)"), letters[k]), lows[k]);
      due("the most", valueOf(under(letters[k] + "32767*65536+65535(1=1)"), letters[k]), highs[k]);
      due("one more", valueOf(under(letters[k] + "32767*65536+65535+1(1=1)"), letters[k]), lows[k]);
    }
  }

  private static void none() {
    says(3, "none: 0");
    String[] letters = {"e", "n", "c", "p", "w", "g"};
    for (String letter : letters) {
      due("no " + letter, valueOf(under("u(1=1)"), letter), 0);
      due("no " + letter + " that holds", valueOf(under(letter + "5(1=2);" + letter + "6(t>0)"), letter), 0);
      due("no law", valueOf(new ShadeTown(), letter), 0);
    }
  }

  private static void lettersToldWhere() {
    says(3, "t, m; in p, w: x, y, s; in w: i, d; in g: h, o (where they are not told they are 0; t in g, too)");
    // what t m x y s i d h o are in each clause, asked in hour 7, season 3, square 5, 4
    String letters = "tmxysidho";
    String[] clauses = {"u", "e", "n", "c", "p", "w", "g"};
    int[][] want = {{7, 3, 0, 0, 0, 0, 0, 0, 0}, {7, 3, 0, 0, 0, 0, 0, 0, 0}, {7, 3, 0, 0, 0, 0, 0, 0, 0}, {7, 3, 0, 0, 0, 0, 0, 0, 0},
        {7, 3, 5, 4, 2, 0, 0, 0, 0}, {7, 3, 5, 4, 2, 6, 8, 0, 0}, {0, 3, 0, 0, 0, 0, 0, 90, 4}};
    for (int clause = 0; clause < clauses.length; clause++) {
      for (int k = 0; k < letters.length(); k++) {
        String c = letters.charAt(k) + "=" + want[clause][k] + ")";
        String text = clause == 0 ? "u(" + c : "u(t=7);" + clauses[clause] + "1(" + c;
        ShadeTown x = under(text);
        x.season(3);
        x.caster(1, 5, 4, 90, 4);
        x.awning(5, 4, 1, 0, 0);
        x.buyer(6, 0, 7);
        due(text, new int[] {x.sun(7, 0), x.sun(7, 1), x.sun(7, 2), x.sun(7, 3), x.price(5, 4, 7), x.worth(6, 5, 4, 7), x.years(1)}[clause], 1);
      }
    }
  }

  private static boolean holds(String c) {
    return under("u(" + c + ")").sun(7, 0) == 1;
  }

  private static void fromTheLeftOn() {
    says(3, "TERMS with + or - between two; FACTORS with one of * / % between two; from the left on");
    due("-", holds("9-5-3=1"), true);
    due("- and +", holds("9-5+3=7"), true);
    due("/", holds("100/10/5=2"), true);
    due("/ and *", holds("7/2*2=6"), true);
    due("* and /", holds("7*2/2=7"), true);
    due("% and *", holds("7%4*2=6"), true);
    due("* and %", holds("2*7%4=2"), true);
    due("* ahead of +", holds("2+3*4=14"), true);
    due("* ahead of -", holds("20-3*4-2=6"), true);
    due("[", holds("[2+3]*[4-1]=15"), true);
    due("both sides", holds("2*3+1=1+3*2"), true);
  }

  private static void thirtyTwoBits() {
    says(3, "All is reckoned with 32 bits, as the machine does");
    String most = "[32767*65536+65535]";
    String least = "[32768*65536]";
    due("the most is above 0", holds(most + ">0"), true);
    due("one more is below 0", holds(most + "+1<0"), true);
    due("one more is the least", holds(most + "+1=" + least), true);
    due("one less than the least is the most", holds(least + "-1=" + most), true);
    due("46340 times itself", holds("46340*46340>0"), true);
    due("46341 times itself", holds("46341*46341<0"), true);
    due("65536 times itself", holds("65536*65536=0"), true);
    due("65536 times 65535 is -65536", holds("65536*65535=0-65536"), true);
    due("99999 times itself is 1409865409", holds("99999*99999=14098*99999+79507"), true);
    due("the least through -1", holds(least + "/[0-1]=" + least), true);
    due("the least modulo -1", holds(least + "%[0-1]=0"), true);
    due("the least through 1", holds(least + "/1=" + least), true);
    due("the least through the most", holds(least + "/" + most + "=0-1"), true);
    due("the least modulo the most", holds(least + "%" + most + "=0-1"), true);
    due("the least is less than the most", holds(least + "<" + most), true);
    due("0 less the least is the least", holds("0-" + least + "=" + least), true);
  }

  private static void towardZero() {
    says(3, "as the machine does: what is divided goes toward 0");
    due("7/2", holds("7/2=3"), true);
    due("-7/2", holds("[0-7]/2=0-3"), true);
    due("7/-2", holds("7/[0-2]=0-3"), true);
    due("-7/-2", holds("[0-7]/[0-2]=3"), true);
    due("7%2", holds("7%2=1"), true);
    due("-7%2", holds("[0-7]%2=0-1"), true);
    due("7%-2", holds("7%[0-2]=1"), true);
    due("-7%-2", holds("[0-7]%[0-2]=0-1"), true);
  }

  private static void dividedByZero() {
    says(3, "what is divided by 0 is REFUSED: then a C does not hold, an E is 0");
    due("/ 1 holds", holds("6/1=6"), true);
    due("/ 0 does not", holds("6/0=6"), false);
    due("/ 0 is not 0, either", holds("6/0=0"), false);
    due("/ 0 is not more", holds("6/0>0"), false);
    due("/ 0 is not less", holds("6/0<9"), false);
    due("% 1 holds", holds("6%1=0"), true);
    due("% 0 does not", holds("6%0=0"), false);
    due("% 0 is not 6", holds("6%0=6"), false);
    due("0/0", holds("0/0=0"), false);
    due("on the right", holds("0=6/[3-3]"), false);
    due("what comes to 0 in 32 bits", holds("6/[65536*65536]=0"), false);
    due("! does not turn it", holds("!6/0=0"), false);
    due("!! does not turn it", holds("!!6/0=0"), false);
    due("! of a (", holds("!(6/0=0)"), false);
    due("in a part of several", holds("6/0=0|1=1"), false);
    due("in a ( of several", holds("(6/0=0)|1=1"), false);
    int[][] rows = {{0, 0}, {1, 9}, {2, 7}};
    for (int[] row : rows) {
      ShadeTown x = under("e5+4/t(1=1);n5+4%t(1=1);c5+4/t(1=1);p5+4/t(1=1);w5+4/t(1=1)");
      x.buyer(0, 0, 0);
      due("e at " + row[0], x.sun(row[0], 1), row[1]);
      due("n at " + row[0], x.sun(row[0], 2), row[0] == 0 ? 0 : 5);
      due("c at " + row[0], x.sun(row[0], 3), row[1]);
      due("p at " + row[0], x.price(0, 0, row[0]), row[1]);
      due("w at " + row[0], x.worth(0, 0, 0, row[0]), row[1]);
    }
    due("an E of g is 0", valueOf(under("g5+4/t(1=1);g7(1=1)"), "g"), 0);
    due("in a [ the whole E is 0", valueOf(under("p9+[7/0](1=1)"), "p"), 0);
    due("the next clause is not asked then", valueOf(under("p9/0(1=1);p7(1=1)"), "p"), 0);
    due("of a C that is refused the next is asked", valueOf(under("p9(1/0=1);p7(1=1)"), "p"), 7);
    due("of a u that is refused the next is asked", under("u(1/0=1);u(1=1)").sun(0, 0), 1);
  }

  private static void asMuchAsMatters() {
    says(3, "Of a C as much is asked, from the left, as matters");
    due("behind one that holds", holds("1=1|1/0=1"), true);
    due("behind one that does not", holds("1=2|1/0=1"), false);
    due("ahead of one that holds", holds("1/0=1|1=1"), false);
    due("& behind one that does not hold", holds("1=2&1/0=1|1=1"), true);
    due("& behind one that holds", holds("1=1&1/0=1|1=1"), false);
    due("& ahead of one that does not hold", holds("1/0=1&1=2|1=1"), false);
    due("in a !(", holds("!(1=2&1/0=1)"), true);
    due("in a !(", holds("!(1=1&1/0=1)"), false);
    due("in a (", holds("(1=1|1/0=1)&1=1"), true);
    due("the third of three", holds("1=2|1=1|1/0=1"), true);
    due("the third of three", holds("1=1&1=2&1/0=1|1=1"), true);
    due("a whole part is passed over", holds("1=2&(1/0=1|1/0=1)&1/0=1|2=2"), true);
    due("a part behind one that holds", holds("1=1&2=2|1/0=1&1=1"), true);
  }

  private static void signsOfPieces() {
    says(3, "E, one of < > =, and E; !PIECE; PARTS with a |, one of which must hold; PIECES with an &, all of which must");
    String[] rows = {"6<7 1", "7<7 0", "8<7 0", "6>7 0", "7>7 0", "8>7 1", "6=7 0", "7=7 1", "8=7 0"};
    for (String row : rows) {
      boolean want = row.endsWith("1");
      String c = row.substring(0, 3);
      due(c, holds(c), want);
      due("!" + c, holds("!" + c), !want);
      due("!!" + c, holds("!!" + c), want);
      due("!(" + c + ")", holds("!(" + c + ")"), !want);
      due("!t" + c.substring(1), holds("!t" + c.substring(1)), !holds("7" + c.substring(1)));
    }
    String yes = "1=1";
    String no = "1=2";
    for (int k = 0; k < 8; k++) {
      boolean a = (k & 1) != 0, b = (k & 2) != 0, c = (k & 4) != 0;
      String p = a ? yes : no, q = b ? yes : no, r = c ? yes : no;
      due(p + "&" + q + "|" + r, holds(p + "&" + q + "|" + r), a && b || c);
      due(p + "|" + q + "&" + r, holds(p + "|" + q + "&" + r), a || b && c);
      due("(" + p + "|" + q + ")&" + r, holds("(" + p + "|" + q + ")&" + r), (a || b) && c);
      due("!" + p + "&" + q, holds("!" + p + "&" + q), !a && b);
      due("!(" + p + "&" + q + ")|" + r, holds("!(" + p + "&" + q + ")|" + r), !(a && b) || c);
      due(p + "&!" + q + "&" + r, holds(p + "&!" + q + "&" + r), a && !b && c);
      due(p + "|!" + q + "|" + r, holds(p + "|!" + q + "|" + r), a || !b || c);
    }
  }
}
