// Promises 17 to 21: strips, walks, buyers and sales; each sentence that names a bound, on both sides of it.
public final class BoundsOfWays extends TownTest {
  public static void main(String[] args) {
    stripHours();
    stripWhats();
    stripThereIsNone();
    stripAtFourSides();
    stripNotAroundTheTown();
    stripLeastPrices();
    stripFewestMoves();
    stripLeastRow();
    stripOnFreeSquares();
    walkArguments();
    walkNotFree();
    walkSixParts();
    walkBehind23();
    walkBeginning();
    walkWaits();
    walkWithin72();
    walkWithin36();
    walkFartherThan36();
    walkShutIn();
    walkNotAroundTheTown();
    walkSoonestOfLikeOnes();
    buyers();
    worths();
    saleArguments();
    saleNotTold();
    saleNoneOfThem();
    saleNothingToSell();
    saleOfWorthless();
    saleOfLikeOnes();
    salePays();
    saleOfManySquares();
    end();
  }

  // ---- promise 17

  private static void stripHours() {
    says(17, "from an HOUR to another one (not with it; 12 HOURS at most); -3: no such ones");
    Maker corners = TownTest::corners;
    taken("twelve from 0", corners, x -> x.strip(0, 12, NONE), 186);
    taken("twelve to the end", corners, x -> x.strip(12, 24, NONE), 330);
    taken("one at the beginning", corners, x -> x.strip(0, 1, NONE), 10);
    taken("one at the end", corners, x -> x.strip(23, 24, NONE), 33);
    taken("not with it", corners, x -> x.strip(3, 5, NONE), 27);
    int[][] none = {{0, 13}, {11, 24}, {0, 24}, {0, 0}, {23, 23}, {24, 24}, {24, 25}, {5, 4}, {23, 25}, {-1, 1}, {-1, 0}, {-2, -1},
        {0, MOST}, {LEAST, 0}, {LEAST, MOST}, {MOST, LEAST}, {MOST, MOST}, {LEAST, LEAST + 1}, {-5, 24}};
    for (int[] hours : none) {
      for (int what : new int[] {NONE, 30, hours[0]}) {
        refused("strip(" + hours[0] + ", " + hours[1] + ", " + what + ")", corners, x -> x.strip(hours[0], hours[1], what), -3);
        refused("strip in a whole town", TownTest::whole, x -> x.strip(hours[0], hours[1], what), -3);
      }
    }
  }

  private static void stripWhats() {
    says(17, "what NONE PRICES, 30 moves, else the SQUARE in HOUR what; -3: an HOUR that is not in it");
    Maker corners = TownTest::corners;
    taken("NONE", corners, x -> x.strip(5, 8, NONE), 48);
    taken("30", corners, x -> x.strip(5, 8, 30), 0);
    for (int hour = 5; hour < 8; hour++) {
      int what = hour;
      taken("hour " + hour, corners, x -> x.strip(5, 8, what), 0);
    }
    for (int what : new int[] {-2, 0, 4, 8, 12, 23, 24, 29, 31, 32, LEAST, MOST}) {
      refused("what " + what, corners, x -> x.strip(5, 8, what), -3);
      refused("what " + what + " in a whole town", TownTest::whole, x -> x.strip(5, 8, what), -3);
    }
    taken("the first hour", corners, x -> x.strip(0, 2, 0), 0);
    taken("the last hour", corners, x -> x.strip(20, 24, 23), 0);
    refused("behind the last hour", corners, x -> x.strip(20, 24, 24), -3);
    refused("ahead of the first hour", corners, x -> x.strip(20, 24, 19), -3);
  }

  private static void stripThereIsNone() {
    says(17, "-2: there is none");
    Maker two = () -> {
      ShadeTown x = under("u(t>5&t<9);p3(1=1)");
      x.awning(2, 0, 1, 0, 0);
      return x;
    };
    taken("all hours", two, x -> x.strip(6, 9, NONE), 9);
    refused("one too early", two, x -> x.strip(5, 9, NONE), -2);
    refused("one too late", two, x -> x.strip(6, 10, NONE), -2);
    refused("one too late, moves", two, x -> x.strip(6, 10, 30), -2);
    refused("one too late, a square that could be", two, x -> x.strip(6, 10, 6), -2);
    refused("by night", two, x -> x.strip(0, 1, 0), -2);
    refused("an hour that is not in it comes first", two, x -> x.strip(0, 1, 1), -3);
    refused("no town at all", ShadeTown::new, x -> x.strip(0, 12, NONE), -2);
  }

  private static void stripAtFourSides() {
    says(17, "each the one ahead or beside it (at its four sides)");
    // where a post at 5, 5 casts in hour 0 (e, n) and in hour 1, and whether one can go from the one to the other
    int[][] rows = {{1, 0, 1, 0, 0}, {1, 0, 1, 1, 1}, {1, 0, 1, -1, 1}, {0, 1, 1, 1, 1}, {0, 1, -1, 1, 1}, {1, 0, 0, 1, -2}, {1, 0, -1, 0, -2},
        {0, 1, 0, -1, -2}, {1, 1, -1, 1, -2}, {1, 1, 0, 1, 1}, {-1, -1, -1, 0, 1}, {-1, -1, 1, 1, -2}, {0, -1, -1, 0, -2}};
    for (int[] row : rows) {
      ShadeTown x = under("u(1=1);e" + (row[0] + 1) + "-1(t=0);n" + (row[1] + 1) + "-1(t=0);e" + (row[2] + 1) + "-1(t=1);n" + (row[3] + 1)
          + "-1(t=1)");
      x.caster(3, 5, 5, 12, 0);
      String way = row[0] + ", " + row[1] + " to " + row[2] + ", " + row[3];
      due(way, x.strip(0, 2, 30), row[4]);
      due(way, x.strip(0, 2, NONE), row[4] == -2 ? -2 : 0);
      due(way, x.strip(0, 2, 0), row[4] == -2 ? -2 : 12 * (5 + row[1]) + 5 + row[0]);
      due(way, x.strip(0, 2, 1), row[4] == -2 ? -2 : 12 * (5 + row[3]) + 5 + row[2]);
    }
  }

  private static void stripNotAroundTheTown() {
    says(17, "beside it (at its four sides)");
    // hour 0: squares 11 and 1; hour 1: squares 12 and 22; 11 and 12 are no neighbours
    ShadeTown x = under("u(1=1);e1(t=0);n1(t=1)");
    x.caster(3, 10, 0, 12, 0);
    x.caster(3, 0, 0, 12, 0);
    due("11 in hour 0", x.shade(11, 0, 0), 1);
    due("12 in hour 1", x.shade(0, 1, 1), 2);
    due("no way from 11 to 12", x.strip(0, 2, NONE), -2);
    // hour 0: squares 12 and 22; hour 1: 11 and 1
    lawOf(x, "u(1=1);e1(t=1);n1(t=0)");
    due("no way from 12 to 11", x.strip(0, 2, NONE), -2);
    // from the last row to the first: 137 and 5
    x = under("u(1=1);n1(t=0);n0-1(t=1)");
    x.caster(3, 5, 10, 12, 0);
    x.caster(3, 5, 1, 12, 0);
    due("137 in hour 0", x.shade(5, 11, 0), 1);
    due("5 in hour 1", x.shade(5, 0, 1), 2);
    due("no way from 137 to 5", x.strip(0, 2, NONE), -2);
  }

  private static void stripLeastPrices() {
    says(17, "the least PRICES together");
    ShadeTown x = under("u(1=1);p99(x=0);p98(1=1)");
    x.awning(0, 0, 1, 0, 0);
    due("the most: 12 times 99", x.strip(0, 12, NONE), 1188);
    x.awning(11, 11, 1, 0, 0);
    due("12 times 98", x.strip(0, 12, NONE), 1176);
    due("there", x.strip(0, 12, 11), 143);
    lawOf(x, "u(1=1);p99(x=0&t=5);p98(t=5);p7(1=1)");
    due("less by one in one hour", x.strip(0, 12, 0), 143);
    lawOf(x, "u(1=1);p98(x=0&t=5);p98(t=5);p7(1=1)");
    due("like ones", x.strip(0, 12, 0), 0);
    lawOf(x, "u(1=1)");
    due("no price", x.strip(0, 12, NONE), 0);
    due("no price", x.strip(0, 12, 30), 0);
  }

  private static void stripFewestMoves() {
    says(17, "of like ones of fewest moves");
    for (int dear = 1; dear <= 2; dear++) {
      ShadeTown x = under("u(1=1);p1+x(t=0);p" + dear + "*[1-x]+x(t=1)");
      x.awning(0, 0, 2, 1, 0);
      due("prices", x.strip(0, 2, NONE), 2);
      due("moves if it costs " + dear, x.strip(0, 2, 30), dear - 1);
      due("then at", x.strip(0, 2, 1), dear - 1);
    }
    // every hour the other one is cheaper by one: eleven moves in twelve hours
    ShadeTown x = under("u(1=1);p5+[x+t]%2(1=1)");
    x.awning(0, 0, 2, 1, 0);
    due("eleven moves", x.strip(0, 12, 30), 11);
    due("prices", x.strip(0, 12, NONE), 60);
    due("at", x.strip(0, 12, 0), 0);
    due("at", x.strip(0, 12, 11), 1);
    due("eleven moves", x.strip(12, 24, 30), 11);
    // a move saves nothing: 16 moves' worth is still less than one price
    x = under("u(1=1);p6(x=0);p5+[x+t]%2(1=1)");
    x.awning(0, 5, 1, 0, 0);
    x.awning(5, 5, 2, 1, 0);
    due("eleven moves are better than twelve pence", x.strip(0, 12, 30), 11);
    due("prices", x.strip(0, 12, NONE), 60);
  }

  private static void stripLeastRow() {
    says(17, "of like ones the least row of SQUARES");
    ShadeTown x = under("u(1=1);p4(1=1)");
    x.awning(11, 11, 1, 0, 0);
    due("the highest alone", x.strip(0, 3, 2), 143);
    x.awning(10, 11, 1, 0, 0);
    due("one lower", x.strip(0, 3, 2), 142);
    x.awning(0, 0, 1, 0, 0);
    due("the lowest", x.strip(0, 3, 2), 0);
    // one must go from x = 0 to x = 1 within hours 0 to 3: as late as it can be
    x = under("u(1=1);p9(t=0&x=1);p9(t=3&x=0);p1(1=1)");
    x.awning(0, 0, 2, 1, 0);
    int[] late = {0, 0, 0, 1};
    for (int hour = 0; hour < 4; hour++) {
      due("late, hour " + hour, x.strip(0, 4, hour), late[hour]);
    }
    // from x = 1 to x = 0: as early as it can be
    lawOf(x, "u(1=1);p9(t=0&x=0);p9(t=3&x=1);p1(1=1)");
    int[] early = {1, 0, 0, 0};
    for (int hour = 0; hour < 4; hour++) {
      due("early, hour " + hour, x.strip(0, 4, hour), early[hour]);
    }
  }

  private static void stripOnFreeSquares() {
    says(17, "in each of them a FREE SQUARE on which somebody casts");
    ShadeTown x = under("u(1=1);p4-x(1=1)");
    x.awning(0, 0, 2, 1, 0);
    due("both", x.strip(0, 2, 0), 1);
    int house = x.caster(0, 1, 0, 1, 0);
    due("one", x.strip(0, 2, 0), 0);
    x.caster(0, 0, 0, 1, 0);
    due("none", x.strip(0, 2, 0), -2);
    x.down(house);
    due("one again", x.strip(0, 2, 0), 1);
  }

  // ---- promise 18

  private static void walkArguments() {
    says(18, "from a SQUARE to another one, beginning with an HOUR; NONE: no such ones");
    Maker night = ShadeTown::new;
    range("from of walk", night, 0, 143, 0, 22, NONE, (x, v) -> x.walk(v, 0, 0, 0));
    range("to of walk", night, 0, 143, 0, 22, NONE, (x, v) -> x.walk(0, v, 0, 0));
    range("hour of walk", night, 0, 23, 22, 22, NONE, (x, v) -> x.walk(0, 143, v, 0));
    range("what of walk", night, 0, 2, 22, 22, NONE, (x, v) -> x.walk(0, 143, 0, v));
    taken("what 1", night, x -> x.walk(0, 143, 0, 1), 0);
    for (int what = 1; what <= 2; what++) {
      int w = what;
      refusedBeyond("from of walk", night, 0, 143, NONE, (x, v) -> x.walk(v, 0, 0, w));
      refusedBeyond("to of walk", night, 0, 143, NONE, (x, v) -> x.walk(0, v, 0, w));
      refusedBeyond("hour of walk", night, 0, 23, NONE, (x, v) -> x.walk(0, 0, v, w));
    }
  }

  private static void walkNotFree() {
    says(18, "NONE: not FREE");
    for (int what = 0; what < 3; what++) {
      int w = what;
      refused("from a house", TownTest::whole, x -> x.walk(65, 0, 0, w), NONE);
      refused("to a house", TownTest::whole, x -> x.walk(0, 65, 0, w), NONE);
      refused("from a house to itself", TownTest::whole, x -> x.walk(65, 65, 0, w), NONE);
      taken("from a house that is gone", TownTest::whole, x -> x.walk(117, 117, 0, w), 0);
      taken("from beside a house", TownTest::whole, x -> x.walk(66, 66, 12, w), 0);
    }
    ShadeTown x = whole();
    // around the house at 5, 5 from 4, 5 to 6, 5
    due("over FREE SQUARES", x.walk(64, 66, 0, 0), 4);
    x.down(0);
    due("over it when it is gone", x.walk(64, 66, 0, 0), 2);
  }

  private static void walkSixParts() {
    says(18, "one in each of six parts of an HOUR (the first step is in its first part)");
    ShadeTown x = under("u(t>0)");
    due("six in the dark hour", x.walk(0, 6, 0, 0), 6);
    due("a seventh is in the sun", x.walk(0, 7, 0, 0), -2);
    due("six: sun", x.walk(0, 6, 0, 1), 0);
    due("seven: sun", x.walk(0, 7, 0, 1), 1);
    due("seven: parts", x.walk(0, 7, 0, 2), 7);
    due("eight: sun", x.walk(0, 8, 0, 1), 2);
    x = under("u(t>1)");
    due("twelve in two dark hours", x.walk(0, 23, 0, 0), 12);
    due("a thirteenth", x.walk(0, 24 + 11, 0, 0), -2);
    due("a thirteenth", x.walk(0, 24 + 11, 0, 1), 1);
    due("six from hour 1 on", x.walk(0, 6, 1, 0), 6);
    due("a seventh from hour 1 on", x.walk(0, 7, 1, 0), -2);
  }

  private static void walkBehind23() {
    says(18, "in that HOUR (behind 23 comes 0)");
    ShadeTown x = under("u(t>0)");
    x.awning(0, 0, 1, 0, 0);
    due("dark at 0", x.walk(0, 1, 23, 0), 7);
    due("six steps at 0", x.walk(0, 6, 23, 0), 12);
    due("seven steps", x.walk(0, 7, 23, 0), -2);
    due("least sun", x.walk(0, 6, 23, 1), 0);
    due("least sun", x.walk(0, 6, 23, 2), 12);
    due("least sun of seven", x.walk(0, 7, 23, 1), 1);
    due("least sun of seven", x.walk(0, 7, 23, 2), 12);
    due("beginning with 22", x.walk(0, 1, 22, 0), 13);
    x = under("u(t<23)");
    x.awning(0, 0, 1, 0, 0);
    due("dark at 23", x.walk(0, 6, 23, 0), 6);
    due("dark at 23 alone", x.walk(0, 7, 23, 0), -2);
    due("from 22 on", x.walk(0, 6, 22, 0), 12);
    due("at 0 it is up", x.walk(0, 1, 0, 0), -2);
  }

  private static void walkBeginning() {
    says(18, "SOONEST all in SHADE (the beginning is not asked)");
    ShadeTown x = under("u(1=1)");
    due("where one is, in the sun", x.walk(5, 5, 12, 0), 0);
    due("where one is, in the sun", x.walk(5, 5, 12, 1), 0);
    due("where one is, in the sun", x.walk(5, 5, 12, 2), 0);
    due("the next one is asked", x.walk(5, 6, 12, 0), -2);
    due("the next one is asked", x.walk(5, 6, 12, 1), 1);
    x.awning(6, 0, 1, 0, 0);
    due("from the sun into shade", x.walk(5, 6, 12, 0), 1);
    due("from the sun into shade", x.walk(5, 6, 12, 1), 0);
    due("out of shade", x.walk(6, 5, 12, 0), -2);
    due("out of shade", x.walk(6, 5, 12, 1), 1);
    due("through shade", x.walk(5, 7, 12, 1), 1);
    due("through the sun", x.walk(4, 6, 12, 0), -2);
    due("through the sun", x.walk(4, 6, 12, 1), 1);
  }

  private static void walkWaits() {
    says(18, "one may wait; what is stepped on (or waited on) is in SHADE if somebody casts on it or the sun is not up");
    // dark from 2 on
    ShadeTown x = under("u(t<2)");
    due("waiting in the sun is in no shade", x.walk(0, 1, 1, 0), -2);
    due("waiting in the sun counts", x.walk(0, 1, 1, 1), 1);
    due("waiting in the sun counts", x.walk(0, 1, 1, 2), 1);
    x.awning(0, 0, 1, 0, 0);
    due("waiting in shade", x.walk(0, 1, 1, 0), 7);
    due("waiting in shade", x.walk(0, 1, 1, 1), 0);
    due("waiting in shade", x.walk(0, 1, 1, 2), 7);
    due("waiting for two hours", x.walk(0, 1, 0, 0), 13);
    // one waits on the way, too
    due("to the awning, waiting there, and on", x.walk(12, 1, 1, 0), 7);
    due("to the awning, waiting there, and on", x.walk(13, 1, 1, 0), -2);
    due("from beside it", x.walk(12, 24 + 1, 1, 1), 0);
    due("from beside it", x.walk(12, 24 + 1, 1, 2), 9);
  }

  private static void walkWithin72() {
    says(18, "within 72 parts: parts; -2: not within 72");
    ShadeTown x = under("u(t<11)");
    x.awning(0, 0, 1, 0, 0);
    for (int to = 1; to <= 6; to++) {
      due(to + " steps", x.walk(0, to, 0, 0), 66 + to);
    }
    due("seven steps are 73 parts", x.walk(0, 7, 0, 0), -2);
    due("seven steps from 1 on", x.walk(0, 7, 1, 0), 67);
    lawOf(x, "u(t<12)");
    due("dark from the 73rd part on", x.walk(0, 1, 0, 0), -2);
    due("an hour later", x.walk(0, 1, 1, 0), 67);
    due("an hour later, six", x.walk(0, 6, 1, 0), 72);
    due("an hour later, seven", x.walk(0, 7, 1, 0), -2);
    due("where it is", x.walk(0, 0, 0, 0), 0);
    // the day itself is no bound: from 20 on to 7 and 8
    lawOf(x, "u(t<7|t>11)");
    due("from 20 on", x.walk(0, 6, 20, 0), 72);
    due("from 20 on", x.walk(0, 7, 20, 0), -2);
  }

  private static void walkWithin36() {
    says(18, "LEAST SUN: of all walks of at most 36 parts the fewest parts in the sun");
    ShadeTown x = under("u(t<5)");
    x.awning(0, 0, 1, 0, 0);
    for (int to = 1; to <= 6; to++) {
      due(to + " steps, sun", x.walk(0, to, 0, 1), 0);
      due(to + " steps, parts", x.walk(0, to, 0, 2), 30 + to);
    }
    due("seven steps, sun", x.walk(0, 7, 0, 1), 1);
    due("seven steps, parts", x.walk(0, 7, 0, 2), 36);
    due("eight steps, sun", x.walk(0, 8, 0, 1), 2);
    due("eight steps, parts", x.walk(0, 8, 0, 2), 36);
    lawOf(x, "u(t<6)");
    due("dark from the 37th part on, sun", x.walk(0, 1, 0, 1), 1);
    due("dark from the 37th part on, parts", x.walk(0, 1, 0, 2), 1);
    due("dark from the 37th part on, two steps", x.walk(0, 2, 0, 1), 2);
    due("dark from the 37th part on, two steps", x.walk(0, 2, 0, 2), 2);
    due("all in shade within 72", x.walk(0, 1, 0, 0), 37);
    due("an hour later", x.walk(0, 1, 1, 1), 0);
    due("an hour later", x.walk(0, 1, 1, 2), 31);
  }

  /** By walls one must go 36 steps from 11, 4 to 10, 11, and 37 to 11, 11. */
  private static ShadeTown walled() {
    ShadeTown x = new ShadeTown();
    for (int k = 1; k <= 11; k++) {
      x.caster(0, k, 5, 1, 0);
    }
    for (int k = 1; k <= 4; k++) {
      x.caster(0, 10, k, 1, 0);
    }
    return x;
  }

  private static void walkFartherThan36() {
    says(18, "2 parts of LEAST SUN (-2: not within 36)");
    Maker walled = BoundsOfWays::walled;
    int from = 12 * 4 + 11;
    for (int step = -1; step <= 1; step++) {
      int to = 142 + step;
      taken("all in shade", walled, x -> x.walk(from, to, 7, 0), 36 + step);
      taken("sun", walled, x -> x.walk(from, to, 7, 1), step > 0 ? -2 : 0);
      taken("parts", walled, x -> x.walk(from, to, 7, 2), step > 0 ? -2 : 36 + step);
    }
    refused("it changes nothing", walled, x -> x.walk(from, 143, 7, 1), -2);
    Maker sunny = () -> {
      ShadeTown x = walled();
      lawOf(x, "u(1=1)");
      return x;
    };
    taken("36 in the sun", sunny, x -> x.walk(from, 142, 7, 1), 36);
    taken("36 in the sun", sunny, x -> x.walk(from, 142, 7, 2), 36);
    taken("37 in the sun", sunny, x -> x.walk(from, 143, 7, 1), -2);
    taken("none in shade", sunny, x -> x.walk(from, 142, 7, 0), -2);
  }

  private static void walkShutIn() {
    says(18, "over FREE SQUARES, by sides");
    ShadeTown x = new ShadeTown();
    x.caster(0, 1, 0, 1, 0);
    due("around", x.walk(0, 2, 0, 0), 4);
    int wall = x.caster(0, 0, 1, 1, 0);
    for (int what = 0; what < 3; what++) {
      due("shut in, not by corners", x.walk(0, 13, 0, what), -2);
      due("nor from there", x.walk(13, 0, 0, what), -2);
      due("where it is", x.walk(0, 0, 0, what), 0);
    }
    x.down(wall);
    due("open again", x.walk(0, 13, 0, 0), 2);
    x.caster(1, 0, 1, 1, 0);
    x.caster(3, 0, 1, 1, 0);
    x.awning(0, 1, 1, 1, 0);
    due("trees, posts and awnings are no walls", x.walk(0, 13, 0, 0), 2);
  }

  private static void walkNotAroundTheTown() {
    says(18, "by sides");
    ShadeTown x = new ShadeTown();
    due("from 11 to 12", x.walk(11, 12, 0, 0), 12);
    due("from 12 to 11", x.walk(12, 11, 0, 0), 12);
    due("from 143 to 0", x.walk(143, 0, 0, 0), 22);
    due("from 132 to 0", x.walk(132, 0, 0, 0), 11);
    due("from 11 to 0", x.walk(11, 0, 0, 0), 11);
    due("one to the east", x.walk(65, 66, 0, 0), 1);
    due("one to the west", x.walk(65, 64, 0, 0), 1);
    due("one to the north", x.walk(65, 77, 0, 0), 1);
    due("one to the south", x.walk(65, 53, 0, 0), 1);
    due("a corner", x.walk(65, 78, 0, 0), 2);
  }

  private static void walkSoonestOfLikeOnes() {
    says(18, "the fewest parts in the sun; of like ones the soonest");
    ShadeTown x = under("u(1=1)");
    // straight on two are in the sun, around by row 1 and row 2 none or one
    due("straight on", x.walk(0, 3, 12, 1), 3);
    due("straight on", x.walk(0, 3, 12, 2), 3);
    x.awning(0, 1, 3, 1, 0);
    due("around: the last alone is in the sun, with 3, 1", x.walk(0, 3, 12, 1), 2);
    due("around", x.walk(0, 3, 12, 2), 5);
    x.awning(3, 1, 1, 0, 0);
    due("around: one in the sun", x.walk(0, 3, 12, 1), 1);
    due("around: one in the sun", x.walk(0, 3, 12, 2), 5);
    x.awning(3, 0, 1, 0, 0);
    due("around: none in the sun", x.walk(0, 3, 12, 1), 0);
    due("around: soonest", x.walk(0, 3, 12, 0), 5);
    x.awning(1, 0, 2, 1, 0);
    due("all are in shade", x.walk(0, 3, 12, 1), 0);
    due("the soonest of like ones", x.walk(0, 3, 12, 2), 3);
    due("the soonest", x.walk(0, 3, 12, 0), 3);
  }

  // ---- promises 19 and 20

  private static void buyers() {
    says(19, "BUYERS 0 to 7: a SQUARE each; false: no such ones");
    Maker whole = TownTest::whole;
    range("i of buyer", whole, 0, 7, 1, 1, 0, (x, v) -> bit(x.buyer(v, 0, 0)));
    range("x of buyer", whole, 0, 11, 1, 1, 0, (x, v) -> bit(x.buyer(0, v, 0)));
    range("y of buyer", whole, 0, 11, 1, 1, 0, (x, v) -> bit(x.buyer(7, 0, v)));
    ShadeTown x = under("w100-d(1=1)");
    for (int i = 0; i < 8; i++) {
      due("not told yet", x.worth(i, 0, 0, 0), NONE);
      due("buyer(" + i + ")", x.buyer(i, 11, i), true);
      due("told", x.worth(i, 11, i, 0), 100);
      due("BUYERS", x.count(6), i + 1);
    }
    says(19, "in place of the one before");
    due("again", x.buyer(7, 0, 11), true);
    due("there now", x.worth(7, 0, 11, 0), 100);
    due("there no more", x.worth(7, 11, 7, 0), 85);
    due("BUYERS", x.count(6), 8);
    due("on a house", x.caster(0, 3, 3, 1, 0), 0);
    due("on a house", x.buyer(0, 3, 3), true);
    due("on a house", x.worth(0, 3, 3, 0), 100);
  }

  private static void worths() {
    says(20, "What a SQUARE is worth to a BUYER in an HOUR; NONE: no such ones");
    Maker corners = TownTest::corners;
    range("i of worth", corners, 0, 7, 511, 511, NONE, (x, v) -> x.worth(v, 0, 11, 0));
    range("x of worth", corners, 0, 11, 500, 500, NONE, (x, v) -> x.worth(0, v, 0, 0));
    range("y of worth", corners, 0, 11, 500, 511, NONE, (x, v) -> x.worth(0, 0, v, 0));
    range("hour of worth", corners, 0, 23, 500, 523, NONE, (x, v) -> x.worth(7, 0, 0, v));
    for (int i = 1; i < 7; i++) {
      int buyer = i;
      refused("not told " + i, corners, x -> x.worth(buyer, 0, 0, 0), NONE);
    }
    says(20, "d THE WAY from its SQUARE (differences of x and y without sign, together)");
    ShadeTown x = under("wd(1=1)");
    int[][] rows = {{0, 0, 0, 0, 0}, {0, 0, 11, 11, 22}, {11, 11, 0, 0, 22}, {11, 0, 0, 11, 22}, {0, 11, 11, 0, 22}, {5, 5, 4, 6, 2}, {5, 5, 6, 4, 2},
        {5, 5, 5, 6, 1}, {5, 5, 4, 5, 1}};
    for (int[] row : rows) {
      x.buyer(3, row[0], row[1]);
      due("d", x.worth(3, row[2], row[3], 0), row[4]);
    }
  }

  // ---- promise 21

  /** Corners for eight buyers: the squares 0, 11, 132, 143 are worth 500, 500, 511, 511 to each, and an hour's number more. */
  private static ShadeTown eight() {
    ShadeTown x = corners();
    for (int i = 0; i < 8; i++) {
      x.buyer(i, 0, 0);
    }
    return x;
  }

  private static void saleArguments() {
    says(21, "A SALE to BUYERS (bits, not empty); -3: no such ones");
    Maker eight = BoundsOfWays::eight;
    range("hour of sale", eight, 0, 23, 511, 534, -3, (x, v) -> x.sale(v, 1, NONE));
    range("buyers of sale", eight, 1, 255, 511, 2022, -3, (x, v) -> x.sale(0, v, NONE));
    range("what of a square", eight, 0, 7, 0, 144, -3, (x, v) -> x.sale(0, 255, v == NONE ? 8 : v));
    int[] squares = {0, 11, 132, 143, 144, 144, 144, 144};
    int[] pays = {500, 500, 511, 511, 0, 0, 0, 0};
    for (int i = 0; i < 8; i++) {
      int buyer = i;
      taken("the square of " + i, eight, x -> x.sale(0, 255, buyer), squares[buyer]);
      taken("what " + i + " pays", eight, x -> x.sale(0, 255, 10 + buyer), pays[buyer]);
    }
    for (int what : new int[] {-2, 8, 9, 18, 19, 20, 42, LEAST, MOST, LEAST + 10, MOST - 10}) {
      refused("what " + what, eight, x -> x.sale(0, 255, what), -3);
    }
    refused("empty", eight, x -> x.sale(0, 0, NONE), -3);
    refused("a ninth", eight, x -> x.sale(0, 256, NONE), -3);
    refused("a ninth beside the first", eight, x -> x.sale(0, 257, 0), -3);
  }

  private static void saleNotTold() {
    says(21, "-2: one is not told");
    Maker corners = TownTest::corners;
    taken("0 and 7", corners, x -> x.sale(0, 129, NONE), 1022);
    taken("0 alone", corners, x -> x.sale(0, 1, 0), 132);
    taken("7 alone", corners, x -> x.sale(0, 128, 7), 132);
    for (int i = 1; i < 7; i++) {
      int buyer = i;
      refused("0, 7 and " + i, corners, x -> x.sale(0, 129 | 1 << buyer, NONE), -2);
      refused(i + " alone", corners, x -> x.sale(0, 1 << buyer, NONE), -2);
      refused(i + " alone, its square", corners, x -> x.sale(0, 1 << buyer, buyer), -2);
      refused(i + " alone, what it pays", corners, x -> x.sale(0, 1 << buyer, 10 + buyer), -2);
      refused("of no such hour", corners, x -> x.sale(24, 1 << buyer, NONE), -3);
    }
    refused("all", corners, x -> x.sale(0, 255, NONE), -2);
  }

  private static void saleNoneOfThem() {
    says(21, "-3: BUYER i is none of them");
    Maker corners = TownTest::corners;
    taken("7 of 0 and 7", corners, x -> x.sale(0, 129, 7), 143);
    refused("7 of 0", corners, x -> x.sale(0, 1, 7), -3);
    refused("17 of 0", corners, x -> x.sale(0, 1, 17), -3);
    refused("0 of 7", corners, x -> x.sale(0, 128, 0), -3);
    refused("10 of 7", corners, x -> x.sale(0, 128, 10), -3);
    refused("1 of 0 and 7", corners, x -> x.sale(0, 129, 1), -3);
    refused("0 of 1, who is not told", corners, x -> x.sale(0, 2, 0), -3);
    refused("11 of 0 and 2, who is not told", corners, x -> x.sale(0, 5, 11), -3);
  }

  private static void saleNothingToSell() {
    says(21, "to each one FREE SQUARE at most on which somebody casts (144: none)");
    Maker night = () -> {
      ShadeTown x = eight();
      lawOf(x, "u(t=5);w9(1=1)");
      return x;
    };
    taken("with the sun", night, x -> x.sale(5, 255, NONE), 36);
    taken("by night", night, x -> x.sale(4, 255, NONE), 0);
    for (int i = 0; i < 8; i++) {
      int buyer = i;
      taken("the square of " + i, night, x -> x.sale(4, 255, buyer), 144);
      taken("what " + i + " pays", night, x -> x.sale(4, 255, 10 + buyer), 0);
    }
    ShadeTown x = night.make();
    x.caster(0, 0, 0, 1, 0);
    due("one is not FREE", x.sale(5, 255, NONE), 27);
    due("one is not FREE", x.sale(5, 255, 0), 11);
    due("one is not FREE", x.sale(5, 255, 3), 144);
    x.down(4);
    due("it is again", x.sale(5, 255, 0), 0);
  }

  private static void saleOfWorthless() {
    says(21, "none behind all");
    ShadeTown x = eight();
    lawOf(x, "u(1=1)");
    int[] squares = {0, 11, 132, 143, 144, 144, 144, 144};
    for (int i = 0; i < 8; i++) {
      due("what is worth nothing is more than none, " + i, x.sale(0, 255, i), squares[i]);
      due("it costs the others nothing", x.sale(0, 255, 10 + i), 0);
    }
    due("together", x.sale(0, 255, NONE), 0);
    lawOf(x, "u(1=1);w1(i=7)");
    due("together", x.sale(0, 255, NONE), 1);
    due("the last has its worth", x.sale(0, 255, 7), 143);
    due("the row is the least else", x.sale(0, 255, 2), 132);
    due("the fourth has none", x.sale(0, 255, 3), 144);
    lawOf(x, "u(1=1);w999(1=1)");
    due("the most: four times 999", x.sale(0, 255, NONE), 3996);
    due("pays", x.sale(0, 255, 10), 999);
    due("pays", x.sale(0, 15, 10), 0);
  }

  private static void saleOfLikeOnes() {
    says(21, "w together most; of like ones the least row by BUYERS; none to two");
    ShadeTown x = under("u(1=1);w10-d(1=1)");
    x.awning(0, 0, 3, 1, 0);
    x.buyer(0, 2, 0);
    x.buyer(1, 2, 0);
    // 10 and 9 for squares 2 and 1: buyer 0 gets the lower one
    due("together", x.sale(0, 3, NONE), 19);
    due("0", x.sale(0, 3, 0), 1);
    due("1", x.sale(0, 3, 1), 2);
    lawOf(x, "u(1=1);w10-d+i*[x/2](1=1)");
    due("one more for 1 on 2", x.sale(0, 3, NONE), 20);
    due("0", x.sale(0, 3, 0), 1);
    lawOf(x, "u(1=1);w10-d+[1-i]*[x/2](1=1)");
    due("one more for 0 on 2", x.sale(0, 3, NONE), 20);
    due("0", x.sale(0, 3, 0), 2);
    due("1", x.sale(0, 3, 1), 1);
  }

  private static void salePays() {
    says(21, "PAYS: what the others would have more together if that BUYER were not there");
    ShadeTown x = under("u(1=1);w[i+1]*100(1=1)");
    x.awning(5, 5, 1, 0, 0);
    x.buyer(0, 0, 0);
    due("alone", x.sale(0, 1, 10), 0);
    x.buyer(1, 0, 0);
    due("the dearer one pays what the other would have", x.sale(0, 3, 11), 100);
    due("the other pays nothing", x.sale(0, 3, 10), 0);
    x.buyer(2, 0, 0);
    due("the dearest one", x.sale(0, 7, 12), 200);
    due("the second", x.sale(0, 7, 11), 0);
    due("who is not there costs nothing", x.sale(0, 3, 11), 100);
    x.awning(6, 5, 1, 0, 0);
    due("two squares: the dearest", x.sale(0, 7, 12), 100);
    due("two squares: the second", x.sale(0, 7, 11), 100);
    due("two squares: the third", x.sale(0, 7, 10), 0);
    x.awning(7, 5, 1, 0, 0);
    due("three squares: nobody", x.sale(0, 7, 12), 0);
    due("three squares: together", x.sale(0, 7, NONE), 600);
  }

  /** Eight buyers at 0, 0 and the first squares of row 0 in shade. */
  private static ShadeTown rowOf(int squares, String law) {
    ShadeTown x = under(law);
    for (int k = 0; k < squares; k++) {
      x.awning(k, 0, 1, 0, 0);
    }
    for (int i = 0; i < 8; i++) {
      x.buyer(i, 0, 0);
    }
    return x;
  }

  private static void saleOfManySquares() {
    says(21, "to each one SQUARE at most, none to two: w together most; of like ones the least row by BUYERS");
    for (int squares = 1; squares <= 12; squares++) {
      ShadeTown alike = rowOf(squares, "u(1=1);w7(1=1)");
      ShadeTown last = rowOf(squares, "u(1=1);w7+x(1=1)");
      int sold = Math.min(8, squares);
      int worth = 0;
      for (int k = squares - sold; k < squares; k++) {
        worth += 7 + k;
      }
      due(squares + " alike, together", alike.sale(0, 255, NONE), 7 * sold);
      due(squares + " squares, together", last.sale(0, 255, NONE), worth);
      for (int i = 0; i < 8; i++) {
        due(squares + " alike, buyer " + i, alike.sale(0, 255, i), i < squares ? i : 144);
        due(squares + " alike, pays " + i, alike.sale(0, 255, 10 + i), i < squares && squares < 8 ? 7 : 0);
        int square = squares - sold + i;
        due(squares + " squares, buyer " + i, last.sale(0, 255, i), i < sold ? square : 144);
        // without it another would have what it has, or the others would move up from the last square that is sold
        int others = squares < 8 ? (i < sold ? 7 + square : 0) : i;
        due(squares + " squares, pays " + i, last.sale(0, 255, 10 + i), others);
      }
    }
    // the last of the twelve is worth most to the first, the first most to the last
    ShadeTown x = rowOf(12, "u(1=1);w900(x=11-i);w1(1=1)");
    due("together", x.sale(0, 255, NONE), 7200);
    for (int i = 0; i < 8; i++) {
      due("buyer " + i, x.sale(0, 255, i), 11 - i);
      due("pays", x.sale(0, 255, 10 + i), 0);
    }
    // all want square 11 most, then what is worth 1 more than nothing: the lowest ones by the row
    x = rowOf(12, "u(1=1);w900+i(x=11);w1(x>2)");
    due("together", x.sale(0, 255, NONE), 907 + 7);
    for (int i = 0; i < 7; i++) {
      due("buyer " + i, x.sale(0, 255, i), 3 + i);
    }
    due("buyer 7", x.sale(0, 255, 7), 11);
    due("buyer 7 pays", x.sale(0, 255, 17), 905);
    due("buyer 0 pays", x.sale(0, 255, 10), 0);
    // one of the first eight is worth nothing: the ninth is sold in its place
    for (int bad = 0; bad < 8; bad++) {
      x = rowOf(12, "u(1=1);w0(x=" + bad + ");w5(1=1)");
      due("together without " + bad, x.sale(0, 255, NONE), 40);
      for (int i = 0; i < 8; i++) {
        due("buyer " + i + " without " + bad, x.sale(0, 255, i), i < bad ? i : i + 1);
      }
    }
    // two want square 7, one of them the squares behind it, too
    x = rowOf(12, "u(1=1);w900(x=7);w1(i=1&x>7)");
    due("together", x.sale(0, 3, NONE), 901);
    due("buyer 0", x.sale(0, 3, 0), 7);
    due("buyer 1", x.sale(0, 3, 1), 8);
    due("buyer 0 pays", x.sale(0, 3, 10), 899);
    due("buyer 1 pays", x.sale(0, 3, 11), 0);
  }
}
