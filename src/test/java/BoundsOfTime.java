// Promises 30 to 38: years, days, purses, odds, the seed, kept and undone, checks, counts; each sentence that names a bound, on both sides.
public final class BoundsOfTime extends TownTest {
  public static void main(String[] args) {
    yearArguments();
    ninetyNineHigh();
    standingTreesAlone();
    yearByYear();
    dayArguments();
    modulo65536();
    notBelowClouds();
    sunMustBeUp();
    partsRoundedDown();
    freeSquaresBring();
    oneDayOrMany();
    purses();
    oddsArguments();
    oddsOfEighteen();
    oddsWithoutDivisor();
    oddsBySun();
    seeds();
    keptHowMany();
    noneWasKept();
    undoneAsItWasLast();
    undoneAgain();
    undoneFromFull();
    notUndone();
    checkArguments();
    checkHasNotSoMany();
    checkPlaces();
    checkFourBytes();
    checkEmptiesTheTape();
    countArguments();
    countsOfEach();
    end();
  }

  // ---- promise 30

  /** Grows by 1 up to 60, so that each year can be told. */
  private static ShadeTown tree(int height) {
    ShadeTown x = under("g1(1=1)");
    x.caster(1, 5, 5, height, 0);
    return x;
  }

  private static void yearArguments() {
    says(30, "YEARS (1 to 60); NONE: no such n");
    range("n of years", () -> tree(1), 1, 60, 1, 60, NONE, (x, v) -> x.years(v));
    ShadeTown x = tree(1);
    x.years(60);
    due("HEIGHT", x.casterIs(0, 2), 61);
    due("years(0)", x.years(0), NONE);
    due("years(61)", x.years(61), NONE);
    due("HEIGHT stays", x.casterIs(0, 2), 61);
  }

  private static void ninetyNineHigh() {
    says(30, "each standing tree is higher by g (99 at most)");
    for (int g = 0; g <= 9; g++) {
      for (int height = 88; height <= 99; height++) {
        ShadeTown x = under("g" + g + "(1=1)");
        x.caster(1, 5, 5, height, 0);
        int want = Math.min(g, 99 - height);
        due(height + " high, g " + g, x.years(1), want);
        due("HEIGHT", x.casterIs(0, 2), height + want);
      }
    }
    ShadeTown x = under("g9(1=1)");
    x.caster(1, 5, 5, 1, 0);
    x.caster(1, 5, 5, 99, 0);
    x.caster(1, 5, 5, 90, 0);
    due("60 years", x.years(60), 98 + 0 + 9);
    for (int c = 0; c < 3; c++) {
      due("HEIGHT", x.casterIs(c, 2), 99);
    }
    due("no more", x.years(60), 0);
  }

  private static void standingTreesAlone() {
    says(30, "each standing tree; how much all trees have grown together");
    ShadeTown x = under("u(1=1);g2(1=1)");
    x.caster(0, 1, 1, 5, 0);
    x.caster(3, 2, 2, 5, 0);
    x.awning(3, 3, 2, 0, 0);
    due("no tree", x.years(60), 0);
    x.caster(1, 4, 4, 5, 0);
    x.caster(1, 4, 4, 5, 0);
    due("two trees", x.years(1), 4);
    x.down(4);
    due("one stands", x.years(1), 2);
    int[] sizes = {5, 5, 2, 9, 7};
    for (int c = 0; c < 5; c++) {
      due("HEIGHT of " + c, x.casterIs(c, 2), sizes[c]);
    }
    x = under("g9(1=1)");
    for (int c = 0; c < 16; c++) {
      x.caster(1, c % 12, 0, 1, 0);
    }
    due("sixteen trees", x.years(60), 16 * 98);
    due("no trees", new ShadeTown().years(1), 0);
  }

  private static void yearByYear() {
    says(30, "g: h HEIGHT, o the OWNER, m SEASON; all at once");
    ShadeTown x = under("g3(h<10);g1(h<12)");
    x.caster(1, 0, 0, 7, 0);
    int[] heights = {10, 11, 12, 12};
    for (int year = 0; year < 4; year++) {
      x.years(1);
      due("in year " + (year + 1), x.casterIs(0, 2), heights[year]);
    }
    x = under("g3(h<10);g1(h<12)");
    x.caster(1, 0, 0, 7, 0);
    due("in four years at once", x.years(4), 5);
    x = under("go+m(1=1)");
    for (int owner = 0; owner < 6; owner++) {
      x.caster(1, owner, 0, 20, owner);
    }
    x.season(3);
    due("by owners", x.years(1), 15 + 18);
    for (int owner = 0; owner < 6; owner++) {
      due("of owner " + owner, x.casterIs(owner, 2), 23 + owner);
    }
    x = under("u(1=1);e1(1=1);g1(1=1)");
    x.caster(1, 0, 0, 11, 0);
    due("11 high", x.cast(0, 0), 1);
    x.years(1);
    due("12 high", x.cast(0, 0), 2);
  }

  // ---- promise 31

  private static ShadeTown paid() {
    ShadeTown x = under("u(t=0|t=23);p3(1=1)");
    x.awning(0, 0, 1, 0, 2);
    return x;
  }

  private static void dayArguments() {
    says(31, "DAYS by clouds (1 to 30); NONE: no such n");
    range("n of days", BoundsOfTime::paid, 1, 30, 6, 180, NONE, (x, v) -> x.days(v));
    ShadeTown x = paid();
    x.days(30);
    int drawn = x.count(5);
    due("days(31)", x.days(31), NONE);
    due("days(0)", x.days(0), NONE);
    due("X stays", x.count(5), drawn);
    due("the PURSE stays", x.purse(2), 180);
  }

  private static int drawn(int x, int times) {
    long all = x;
    for (int k = 0; k < times; k++) {
      all = (25173 * all + 13849) % 65536;
    }
    return (int) all;
  }

  private static void modulo65536() {
    says(31, "in each HOUR X = (25173 X + 13849) modulo 65536");
    int[] seeds = {0, 1, 2, 3, 65535, 65534, 32767, 32768};
    for (int seed : seeds) {
      ShadeTown x = new ShadeTown();
      x.seed(seed);
      due("X", x.count(5), seed);
      x.days(1);
      due("X behind a day from " + seed, x.count(5), drawn(seed, 24));
      x.days(30);
      due("X behind 31 days from " + seed, x.count(5), drawn(seed, 24 * 31));
    }
    due("by night, too", drawn(0, 1), 13849);
  }

  private static void notBelowClouds() {
    says(31, "if X modulo 10 is not below c");
    // the seed, and the last digit of the X behind it: 13849, 39022, 64195, 89368 - 65536 = 23832, 54212
    int[][] rows = {{0, 9}, {1, 2}, {2, 5}, {3, 2}, {65535, 2}};
    for (int[] row : rows) {
      for (int c = 0; c <= 10; c++) {
        ShadeTown x = under("u(t=0);p7(1=1);c" + c + "(1=1)");
        x.awning(0, 0, 1, 0, 0);
        x.seed(row[0]);
        due("seed " + row[0] + ", c " + c, x.days(1), row[1] >= c ? 7 : 0);
      }
    }
    // the hour counts: the 24th X of the day for hour 23
    for (int seed = 0; seed < 20; seed++) {
      ShadeTown x = under("u(t=23);p7(1=1);c5(1=1)");
      x.awning(0, 0, 1, 0, 0);
      x.seed(seed);
      due("hour 23, seed " + seed, x.days(1), drawn(seed, 24) % 10 >= 5 ? 7 : 0);
    }
    ShadeTown x = under("u(1=1);p7(1=1);c10(1=1)");
    x.awning(0, 0, 1, 0, 0);
    due("always clouds", x.days(30), 0);
    lawOf(x, "u(1=1);p7(1=1)");
    due("never clouds", x.days(30), 30 * 24 * 7);
  }

  private static void sunMustBeUp() {
    says(31, "if the sun is up");
    ShadeTown x = under("p7(1=1)");
    x.awning(0, 0, 1, 0, 0);
    due("no sun", x.days(30), 0);
    lawOf(x, "u(t=5);p7(1=1)");
    due("one hour", x.days(1), 7);
    lawOf(x, "u(t=0|t=23);pt+1(1=1)");
    due("the first hour and the last one", x.days(1), 1 + 24);
    lawOf(x, "u(m=2);p1(1=1)");
    due("not in this season", x.days(1), 0);
    x.season(2);
    due("in that season", x.days(1), 24);
  }

  private static void partsRoundedDown() {
    says(31, "its PRICE, in PARTS (rounded down; the rest is lost)");
    for (int casters = 1; casters <= 16; casters++) {
      for (int price : new int[] {0, 1, casters - 1, casters, casters + 1, 2 * casters - 1, 2 * casters, 99}) {
        ShadeTown x = under("u(t=0);p" + price + "(1=1)");
        for (int c = 0; c < casters; c++) {
          x.awning(4, 4, 1, 0, c == 0 ? 0 : 1);
        }
        int part = price / casters;
        due(price + " for " + casters, x.days(1), part * casters);
        due("the one", x.purse(0), part);
        due("the others", x.purse(1), part * (casters - 1));
      }
    }
    ShadeTown x = under("u(t=0);p5(1=1)");
    x.awning(0, 0, 3, 1, 0);
    x.awning(1, 0, 2, 1, 1);
    x.awning(2, 0, 1, 1, 2);
    due("5, two twos, three ones", x.days(1), 5 + 4 + 3);
    due("owner 0", x.purse(0), 8);
    due("owner 1", x.purse(1), 3);
    due("owner 2", x.purse(2), 1);
  }

  private static void freeSquaresBring() {
    says(31, "each FREE SQUARE on which somebody casts");
    ShadeTown x = under("u(t=0);p5(1=1);e1(1=1)");
    x.awning(0, 0, 3, 1, 0);
    due("three squares", x.days(1), 15);
    int house = x.caster(0, 1, 0, 1, 1);
    due("a house on one", x.days(1), 10);
    due("the house casts on none", x.purse(1), 0);
    x.down(house);
    due("three again", x.days(1), 15);
    x.down(0);
    due("nobody casts", x.days(1), 0);
    due("the PURSE stays", x.purse(0), 40);
  }

  private static void oneDayOrMany() {
    says(31, "what comes to all PURSES together");
    ShadeTown many = whole();
    ShadeTown one = whole();
    int together = 0;
    for (int day = 0; day < 30; day++) {
      together += one.days(1);
    }
    due("30 days at once and one by one", many.days(30), together);
    for (int owner = 0; owner < 6; owner++) {
      due("PURSE", many.purse(owner), one.purse(owner));
    }
    due("X", many.count(5), one.count(5));
  }

  // ---- promise 32

  private static void purses() {
    says(32, "A PURSE; NONE: no such OWNER");
    Maker all = () -> {
      ShadeTown x = under("u(t=0);p10+x(1=1)");
      for (int owner = 0; owner < 6; owner++) {
        x.awning(owner, 0, 1, 0, owner);
      }
      x.days(2);
      return x;
    };
    range("owner of purse", all, 0, 5, 20, 30, NONE, (x, v) -> x.purse(v));
    for (int owner = 0; owner < 6; owner++) {
      due("empty at first", new ShadeTown().purse(owner), 0);
      due("owner " + owner, all.make().purse(owner), 20 + 2 * owner);
    }
  }

  // ---- promise 33

  private static void oddsArguments() {
    says(33, "from one to another one (not with it; 18 at most); -1: no such ones");
    Maker half = () -> under("u(1=1);c5(1=1)");
    taken("one hour", half, x -> x.odds(0, 1, 1), 2);
    taken("the last hour", half, x -> x.odds(23, 24, 1), 2);
    taken("18 hours", half, x -> x.odds(0, 18, 1), 1 << 18);
    taken("the last 18 hours", half, x -> x.odds(6, 24, 1), 1 << 18);
    taken("17 hours", half, x -> x.odds(6, 23, 1), 1 << 17);
    int[][] none = {{0, 19}, {5, 24}, {0, 24}, {0, 0}, {23, 23}, {24, 24}, {24, 25}, {23, 25}, {7, 6}, {-1, 0}, {-1, 5}, {-1, 17}, {0, MOST},
        {LEAST, 0}, {LEAST, MOST}, {MOST, LEAST}, {MOST - 1, MOST}};
    for (int[] hours : none) {
      for (int what = 0; what < 2; what++) {
        int w = what;
        refused("odds(" + hours[0] + ", " + hours[1] + ")", half, x -> x.odds(hours[0], hours[1], w), NONE);
      }
    }
    range("what of odds", half, 0, 1, 1, 4, NONE, (x, v) -> x.odds(3, 5, v));
  }

  private static void oddsOfEighteen() {
    says(33, "ODDS that in no HOUR there are clouds (18 at most)");
    for (int c = 0; c <= 10; c++) {
      ShadeTown x = under("u(1=1);c" + c + "(1=1)");
      java.math.BigInteger above = java.math.BigInteger.valueOf(10 - c).pow(18);
      java.math.BigInteger below = java.math.BigInteger.TEN.pow(18);
      java.math.BigInteger divisor = above.gcd(below);
      due("c " + c + ", above", x.odds(3, 21, 0), above.divide(divisor).longValueExact());
      due("c " + c + ", below", x.odds(3, 21, 1), below.divide(divisor).longValueExact());
    }
    ShadeTown x = under("u(1=1);c1(1=1)");
    due("9 to the 18th", x.odds(0, 18, 0), 150094635296999121L);
    due("10 to the 18th", x.odds(0, 18, 1), 1000000000000000000L);
  }

  private static void oddsWithoutDivisor() {
    says(33, "what 0 above, 1 below the line, without a common divisor");
    int[][] rows = {{0, 1, 1}, {1, 9, 10}, {2, 4, 5}, {3, 7, 10}, {4, 3, 5}, {5, 1, 2}, {6, 2, 5}, {7, 3, 10}, {8, 1, 5}, {9, 1, 10}, {10, 0, 1}};
    for (int[] row : rows) {
      ShadeTown x = under("u(1=1);c" + row[0] + "(t=7)");
      due("c " + row[0] + ", above", x.odds(7, 8, 0), row[1]);
      due("c " + row[0] + ", below", x.odds(7, 8, 1), row[2]);
      due("c " + row[0] + " in a row, above", x.odds(0, 18, 0), row[1]);
      due("c " + row[0] + " in a row, below", x.odds(0, 18, 1), row[2]);
    }
    ShadeTown x = under("u(1=1);c5(t=7);c6(t=8);c10(t=9)");
    due("5/10 times 4/10", x.odds(7, 9, 0), 1);
    due("5/10 times 4/10", x.odds(7, 9, 1), 5);
    due("and 0", x.odds(7, 10, 0), 0);
    due("and 0", x.odds(7, 10, 1), 1);
  }

  private static void oddsBySun() {
    says(33, "in no HOUR in which the sun is up");
    ShadeTown x = under("u(t>5&t<8);c5(1=1)");
    int[][] rows = {{0, 6, 1}, {0, 7, 2}, {0, 8, 4}, {0, 9, 4}, {6, 7, 2}, {7, 8, 2}, {8, 24, 1}, {5, 6, 1}, {6, 24, 4}};
    for (int[] row : rows) {
      due(row[0] + " to " + row[1], x.odds(row[0], row[1], 0), 1);
      due(row[0] + " to " + row[1], x.odds(row[0], row[1], 1), row[2]);
    }
  }

  // ---- promises 34 to 36

  private static void seeds() {
    says(34, "THE SEED (0 to 65535; X, too): true; false: no such number");
    range("seed", TownTest::whole, 0, 65535, 1, 1, 0, (x, v) -> bit(x.seed(v)));
    ShadeTown x = new ShadeTown();
    for (int seed : new int[] {0, 1, 4711, 65534, 65535}) {
      due("seed(" + seed + ")", x.seed(seed), true);
      due("X, too", x.count(5), seed);
      due("refused", x.seed(65536), false);
      due("refused", x.seed(-1), false);
      due("it stays", x.count(5), seed);
    }
    x.days(1);
    due("X goes on from it", x.count(5), drawn(65535, 24));
    x.seed(65535);
    due("and back", x.count(5), 65535);
  }

  private static void keptHowMany() {
    says(35, "KEPT AS IT IS: how many CASTERS stand");
    ShadeTown x = new ShadeTown();
    due("none", x.keep(), 0);
    for (int c = 0; c < 16; c++) {
      x.caster(c % 2 == 0 ? 1 : 3, c % 12, 0, 1, 0);
      due("with " + c, x.keep(), c + 1);
    }
    x.down(0);
    due("one is gone", x.keep(), 15);
    for (int c = 1; c < 16; c++) {
      x.down(c);
    }
    due("all are gone", x.keep(), 0);
    due("a whole town", whole().keep(), 4);
  }

  private static void noneWasKept() {
    says(36, "UNDONE: true; false: none was KEPT");
    Maker unkept = () -> {
      ShadeTown x = under(LAW);
      x.caster(1, 5, 5, 12, 0);
      x.season(2);
      x.days(3);
      x.feed(0, 0, 0, 0, 0);
      return x;
    };
    refused("none was kept", unkept, x -> bit(x.undo()), 0);
    refused("in a new one", ShadeTown::new, x -> bit(x.undo()), 0);
    ShadeTown x = unkept.make();
    due("again", x.undo(), false);
    x.keep();
    due("kept", x.undo(), true);
    x = new ShadeTown();
    due("nothing can be kept, too", x.keep(), 0);
    x.caster(1, 5, 5, 12, 0);
    due("undone", x.undo(), true);
    due("CASTERS", x.count(0), 0);
    due("standing", x.count(1), 0);
  }

  private static void undoneAsItWasLast() {
    says(36, "KEPT AS IT IS: CASTERS, PURSES, SEASON, X; UNDONE: as it was last");
    ShadeTown x = whole();
    ShadeTown as = whole();
    x.keep();
    as.keep();
    x.down(0);
    x.down(1);
    x.caster(0, 5, 5, 99, 4);
    x.move(2, 0, 0);
    x.season(3);
    x.years(5);
    x.days(7);
    x.seed(5);
    due("undone", x.undo(), true);
    sameAs("undone", x, as);
    // each of them alone
    Call[] changes = {town -> bit(town.down(0)), town -> bit(town.down(3)), town -> town.caster(1, 0, 0, 1, 0), town -> town.awning(0, 0, 1, 0, 0),
        town -> bit(town.move(2, 0, 0)), town -> bit(town.season(3)), town -> town.years(1), town -> town.days(1), town -> bit(town.seed(9))};
    for (int k = 0; k < changes.length; k++) {
      x = whole();
      x.keep();
      changes[k].on(x);
      due("undone", x.undo(), true);
      as = whole();
      as.keep();
      sameAs("change " + k + " undone", x, as);
    }
    // what was kept is not touched by what comes behind it
    x = whole();
    x.keep();
    x.caster(0, 0, 0, 50, 1);
    due("kept once more", x.keep(), 5);
    x.down(5);
    x.undo();
    due("as it was last", x.count(1), 47);
  }

  private static void undoneAgain() {
    says(36, "as it was last");
    ShadeTown x = new ShadeTown();
    x.caster(1, 5, 5, 12, 0);
    x.keep();
    for (int k = 0; k < 3; k++) {
      x.caster(1, 6, 6, 12, 0);
      due("one more", x.count(0), 2);
      due("undone again", x.undo(), true);
      due("one", x.count(0), 1);
      due("undone with nothing done", x.undo(), true);
      due("one", x.count(0), 1);
    }
  }

  private static void undoneFromFull() {
    says(36, "CASTERS are undone: there is room again");
    ShadeTown x = new ShadeTown();
    for (int c = 0; c < 15; c++) {
      x.caster(1, 0, 0, 1, 0);
    }
    x.keep();
    due("the 16th", x.caster(0, 3, 3, 1, 0), 15);
    due("the 17th", x.caster(0, 4, 4, 1, 0), NONE);
    due("undone", x.undo(), true);
    due("FREE", x.count(8), 144);
    due("the 16th again", x.caster(0, 3, 3, 1, 0), 15);
    due("the 17th again", x.caster(0, 4, 4, 1, 0), NONE);
    // a house that is kept stands again, and keeps another from its square
    x = new ShadeTown();
    x.caster(0, 3, 3, 1, 0);
    x.keep();
    x.down(0);
    x.caster(0, 3, 3, 7, 0);
    x.undo();
    due("CASTERS", x.count(0), 1);
    due("it stands", x.casterIs(0, 5), 1);
    due("a house is there", x.caster(0, 3, 3, 7, 0), -2);
  }

  private static void notUndone() {
    says(36, "CASTERS, PURSES, SEASON, X, and nothing else");
    ShadeTown x = new ShadeTown();
    x.keep();
    lawOf(x, "u(1=1);w50-d(1=1)");
    x.buyer(3, 3, 3);
    x.wish(5, 3, 3, 0, 24, true, 2);
    x.feed(0, 0, 0, 0, 0);
    due("undone", x.undo(), true);
    due("THE LAW", x.count(2), 2);
    due("THE LAW", x.sun(0, 0), 1);
    due("the tape", x.count(3), 20);
    due("BUYERS", x.count(6), 1);
    due("BUYERS", x.worth(3, 3, 3, 0), 50);
    due("WISHES", x.count(7), 32);
    due("WISHES", x.happy(), 48);
  }

  // ---- promise 37

  private static void checkArguments() {
    says(37, "CHECK of an HOUR and row by the first n numbers (0 to 12); -2: no such ones (the tape stays)");
    Maker whole = TownTest::whole;
    range("hour of check", whole, 0, 23, NONE, NONE, -2, (x, v) -> x.check(v, 0, 5));
    range("y of check", whole, 0, 11, NONE, NONE, -2, (x, v) -> x.check(0, v, 5));
    range("n of check", whole, 0, 12, NONE, NONE, -2, (x, v) -> x.check(8, 5, v));
    for (int n = 0; n <= 12; n++) {
      int numbers = n;
      taken("n = " + n, whole, x -> x.check(8, 5, numbers), NONE);
    }
    refused("13 numbers, though there are 15", whole, x -> x.check(8, 5, 13), -2);
    refused("15 numbers, though there are 15", whole, x -> x.check(8, 5, 15), -2);
    refused("no such hour with no number", whole, x -> x.check(24, 5, 0), -2);
    refused("no such row with no number", whole, x -> x.check(8, 12, 0), -2);
  }

  private static void checkHasNotSoMany() {
    says(37, "-2: it has not so many (the tape stays)");
    int[] bytes = {0, 20, 40};
    for (int k = 0; k < 3; k++) {
      int feeds = k;
      int numbers = bytes[k] / 4;
      Maker maker = () -> {
        ShadeTown x = wholeWithoutTape();
        for (int f = 0; f < feeds; f++) {
          x.feed(0, 0, 0, 0, 0);
        }
        return x;
      };
      due("bytes", maker.make().count(3), bytes[k]);
      taken("all of " + numbers, maker, x -> x.check(0, 0, numbers), NONE);
      refused("one more than " + numbers, maker, x -> x.check(0, 0, numbers + 1), -2);
    }
  }

  private static void checkPlaces() {
    says(37, "NONE: right; else the place of the first number that is not so");
    ShadeTown x = under("u(t=12)");
    x.awning(0, 4, 3, 1, 0);
    x.awning(11, 4, 2, 3, 0);
    x.awning(11, 4, 1, 0, 0);
    // 1 1 1 0 0 0 0 0 0 0 1 2
    int[] right = {1, 1, 1, 0, 0, 0, 0, 0, 0, 0, 1, 2, 0, 0, 0};
    for (int wrong = -1; wrong < 15; wrong++) {
      int[] all = right.clone();
      if (wrong >= 0) all[wrong]++;
      for (int k = 0; k < 15; k += 5) {
        x.feed(all[k], all[k + 1], all[k + 2], all[k + 3], all[k + 4]);
      }
      due("wrong at " + wrong, x.check(12, 4, 12), wrong >= 0 && wrong < 12 ? wrong : NONE);
      due("empty then", x.count(3), 0);
    }
    for (int n = 0; n <= 5; n++) {
      x.feed(1, 1, 9, 9, 9);
      due("the first " + n, x.check(12, 4, n), n < 3 ? NONE : 2);
    }
    x.feed(0, 0, 0, 0, 0);
    due("by night nobody casts", x.check(11, 4, 5), NONE);
    x.caster(0, 1, 4, 1, 0);
    x.feed(1, 0, 1, 0, 0);
    due("on a house nobody casts", x.check(12, 4, 5), NONE);
    for (int c = x.count(0); c < 16; c++) {
      x.awning(0, 0, 1, 0, 0);
    }
    x.feed(12, 0, 0, 0, 0);
    due("twelve on one", x.check(12, 0, 5), NONE);
  }

  private static void checkFourBytes() {
    says(37, "numbers of the tape (four bytes each)");
    ShadeTown x = under("u(t=12)");
    x.awning(0, 4, 3, 1, 0);
    int[] wrong = {0, 2, -1, 257, 65537, 1 << 24 | 1, 1 << 31 | 1, 256, 1 << 16, 1 << 24, LEAST, MOST};
    for (int number : wrong) {
      x.feed(1, 1, number, 0, 0);
      due(number + " is not 1", x.check(12, 4, 5), 2);
    }
    x.feed(1, 1, 1, 0, 0);
    due("1 is", x.check(12, 4, 5), NONE);
  }

  private static void checkEmptiesTheTape() {
    says(37, "by the first n numbers of the tape (empty then)");
    int[][] rows = {{12, NONE}, {5, NONE}, {1, NONE}, {0, NONE}};
    for (int[] row : rows) {
      ShadeTown x = whole();
      due("check", x.check(8, 5, row[0]), row[1]);
      due("empty", x.count(3), 0);
      sameAs("all else stays", x, wholeWithoutTape());
    }
    ShadeTown x = whole();
    // at 9 the post casts no more on 6, 5
    due("not so", x.check(9, 5, 12), 6);
    due("empty", x.count(3), 0);
    sameAs("all else stays", x, wholeWithoutTape());
  }

  // ---- promise 38

  private static void countArguments() {
    says(38, "count: NONE for others");
    range("what of count", TownTest::whole, 0, 8, 5, 143, NONE, (x, v) -> x.count(v));
    int[] want = {5, 15, 7, 60, 1, drawn(1, 72), 3, 0x8003, 143};
    for (int what = 0; what < 9; what++) {
      due("count(" + what + ") of a whole town", whole().count(what), want[what]);
    }
  }

  private static void countsOfEach() {
    says(38, "0 CASTERS, 1 standing ones (bits), 2 CLAUSES, 3 bytes of the tape, 4 SEASON, 5 X, 6 BUYERS, 7 WISHES (bits), 8 FREE SQUARES");
    ShadeTown x = new ShadeTown();
    for (int c = 0; c < 16; c++) {
      x.caster(0, c % 12, c / 12, 1, 0);
      due("CASTERS", x.count(0), c + 1);
      due("standing", x.count(1), (1 << c + 1) - 1);
      due("FREE", x.count(8), 143 - c);
    }
    for (int c = 0; c < 16; c++) {
      x.down(c);
      due("CASTERS", x.count(0), 16);
      due("standing", x.count(1), 65535 & -1 << c + 1);
      due("FREE", x.count(8), 129 + c);
    }
    for (int k = 1; k <= 16; k++) {
      lawOf(x, times("u(t=1);", k - 1) + "u(t=1)");
      due("CLAUSES", x.count(2), k);
    }
    for (int k = 1; k <= 13; k++) {
      x.feed(0, 0, 0, 0, 0);
      due("bytes", x.count(3), 20 * k);
    }
    for (int i = 7; i >= 0; i--) {
      x.buyer(i, 0, 0);
      x.buyer(i, 1, 1);
      due("BUYERS", x.count(6), 8 - i);
    }
    for (int k = 15; k >= 0; k--) {
      x.wish(k, 0, 0, 0, 1, true, 1);
      due("WISHES", x.count(7), 65535 & -1 << k);
    }
  }
}
