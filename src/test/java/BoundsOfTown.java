// Promises 4 to 16: casters, the sun, who casts where; each sentence that names a bound, on both sides of it.
public final class BoundsOfTown extends TownTest {
  public static void main(String[] args) {
    bareArguments();
    kinds();
    houseIsThere();
    sixteenCasters();
    sixteenWithGoneOnes();
    awningsInTheTown();
    downOnce();
    onlyPostsMove();
    seasons();
    casterIs();
    sunWhetherUpOrNot();
    hoursOfTheSun();
    lengthOfShade();
    shadeInTheTown();
    shadeTowardZero();
    greaterWithoutSign();
    behindOthers();
    ownSquare();
    notFree();
    sixteenOnOneSquare();
    pricesByWhoCasts();
    castByHourAndDay();
    parts();
    ledToGoneOnes();
    longestRows();
    longestAtBothEnds();
    donkeyBehindTheNorth();
    donkeyOfLikeOnes();
    end();
  }

  /** Each number that a call takes, at its lowest and highest, and beyond. */
  private static void bareArguments() {
    Maker whole = TownTest::whole;
    Maker corners = TownTest::corners;
    Maker full = TownTest::full;
    says(4, "SQUARES x, y (0 to 11); HEIGHT 1 to 99; OWNER (0 to 5); NONE: no such ones");
    for (int kind : new int[] {0, 1, 3}) {
      range("x of caster", whole, 0, 11, 5, 5, NONE, (x, v) -> x.caster(kind, v, 0, 1, 0));
      range("y of caster", whole, 0, 11, 5, 5, NONE, (x, v) -> x.caster(kind, 0, v, 1, 0));
      range("height of caster", whole, 1, 99, 5, 5, NONE, (x, v) -> x.caster(kind, 0, 0, v, 0));
      range("owner of caster", whole, 0, 5, 5, 5, NONE, (x, v) -> x.caster(kind, 0, 0, 1, v));
    }
    says(5, "SQUARES x, y (0 to 11); LENGTH 1 to 3; DIRECTION 0 to 3; OWNER (0 to 5); NONE: as above");
    range("x of awning", whole, 0, 11, 5, 5, NONE, (x, v) -> x.awning(v, 0, 1, 0, 0));
    range("y of awning", whole, 0, 11, 5, 5, NONE, (x, v) -> x.awning(0, v, 1, 0, 0));
    range("length of awning", whole, 1, 3, 5, 5, NONE, (x, v) -> x.awning(0, 0, v, 0, 0));
    range("direction of awning", whole, 0, 3, 5, 5, NONE, (x, v) -> x.awning(0, 0, 1, v, 0));
    range("owner of awning", whole, 0, 5, 5, 5, NONE, (x, v) -> x.awning(0, 0, 1, 0, v));
    says(6, "false: no such one");
    range("c of down", whole, 0, 3, 1, 1, 0, (x, v) -> bit(x.down(v)));
    refusedBeyond("c of down", full, 0, 15, 0, (x, v) -> bit(x.down(v)));
    says(7, "A standing post is moved to a FREE SQUARE: false: no such ones");
    range("x of move", whole, 0, 11, 1, 1, 0, (x, v) -> bit(x.move(2, v, 0)));
    range("y of move", whole, 0, 11, 1, 1, 0, (x, v) -> bit(x.move(2, 0, v)));
    refusedBeyond("c of move", full, 8, 11, 0, (x, v) -> bit(x.move(v, 0, 11)));
    says(8, "SEASON (0 to 3): false: no such one");
    range("season", whole, 0, 3, 1, 1, 0, (x, v) -> bit(x.season(v)));
    says(9, "casterIs: NONE for others");
    taken("casterIs(0, 2)", full, x -> x.casterIs(0, 2), 10);
    taken("casterIs(15, 2)", full, x -> x.casterIs(15, 2), 1);
    refusedBeyond("c of casterIs", full, 0, 15, NONE, (x, v) -> x.casterIs(v, 2));
    refusedBeyond("c of casterIs", whole, 0, 4, NONE, (x, v) -> x.casterIs(v, 2));
    taken("casterIs(14, 0)", full, x -> x.casterIs(14, 0), 2);
    taken("casterIs(14, 5)", full, x -> x.casterIs(14, 5), 1);
    refusedBeyond("what of casterIs", full, 0, 5, NONE, (x, v) -> x.casterIs(14, v));
    says(10, "HOUR (0 to 23); -100: no such ones");
    range("hour of sun", corners, 0, 23, 1, 1, -100, (x, v) -> x.sun(v, 0));
    range("what of sun", corners, 0, 3, 1, 0, -100, (x, v) -> x.sun(12, v));
    says(11, "shade: NONE: no such ones");
    range("x of shade", corners, 0, 11, 1, 2, NONE, (x, v) -> x.shade(v, 0, 0));
    range("y of shade", corners, 0, 11, 1, 4, NONE, (x, v) -> x.shade(0, v, 0));
    range("hour of shade", corners, 0, 23, 8, 8, NONE, (x, v) -> x.shade(11, 11, v));
    says(12, "price: NONE: no such ones");
    range("x of price", corners, 0, 11, 10, 21, NONE, (x, v) -> x.price(v, 0, 0));
    range("y of price", corners, 0, 11, 10, 32, NONE, (x, v) -> x.price(0, v, 0));
    range("hour of price", corners, 0, 23, 10, 33, NONE, (x, v) -> x.price(0, 0, v));
    says(13, "CAST by a CASTER in an HOUR (24: the DAY); NONE: no such ones");
    range("hour of cast", corners, 0, 24, 1, 24, NONE, (x, v) -> x.cast(0, v));
    taken("cast(0, 24)", full, x -> x.cast(0, 24) > 0 ? 1 : 0, 1);
    taken("cast(15, 24)", full, x -> x.cast(15, 24), 0);
    refusedBeyond("c of cast", full, 0, 15, NONE, (x, v) -> x.cast(v, 24));
    refusedBeyond("c of cast", whole, 0, 4, NONE, (x, v) -> x.cast(v, 12));
    says(14, "led: -1: no such ones");
    range("owner of led", corners, 0, 5, 24, 24, NONE, (x, v) -> x.led(v, 0));
    range("what of led", corners, 0, 1, 24, 1, NONE, (x, v) -> x.led(5, v));
    says(15, "longest: NONE: no such ones");
    range("x of longest", corners, 0, 11, 24, 24, NONE, (x, v) -> x.longest(v, 0, 0));
    range("y of longest", corners, 0, 11, 24, 24, NONE, (x, v) -> x.longest(0, v, 0));
    range("what of longest", corners, 0, 1, 24, 0, NONE, (x, v) -> x.longest(0, 0, v));
    says(16, "donkey: NONE: no such what");
    range("what of donkey", corners, 0, 1, -2, -2, NONE, (x, v) -> x.donkey(v));
    // north of the house at 5, 5 is the tree's square, in shade from 6 to 18
    range("what of donkey", whole, 0, 1, 77, 13, NONE, (x, v) -> x.donkey(v));
  }

  // ---- promises 4 to 9

  private static void kinds() {
    says(4, "A house (0), tree (1), post (3)");
    Maker whole = TownTest::whole;
    for (int kind : new int[] {0, 1, 3}) {
      ShadeTown x = whole();
      due("kind " + kind, x.caster(kind, 11, 0, 99, 5), 5);
      int[] want = {kind, 11, 99, 0, 5, 1};
      for (int what = 0; what < 6; what++) {
        due("casterIs(5, " + what + ")", x.casterIs(5, what), want[what]);
      }
      due("CASTERS", x.count(0), 6);
      due("standing", x.count(1), 47);
      due("FREE", x.count(8), kind == 0 ? 142 : 143);
    }
    refused("kind 2", whole, x -> x.caster(2, 0, 0, 1, 0), NONE);
    refusedBeyond("kind", whole, 0, 3, NONE, (x, v) -> x.caster(v, 0, 0, 1, 0));
  }

  private static void houseIsThere() {
    says(4, "-2: a house is there (of a house alone); No two standing houses are on one SQUARE");
    Maker whole = TownTest::whole;
    refused("a house on a house", whole, x -> x.caster(0, 5, 5, 1, 0), -2);
    refused("a house on a house, of the same kind in all", whole, x -> x.caster(0, 5, 5, 12, 0), -2);
    taken("a tree on a house", whole, x -> x.caster(1, 5, 5, 1, 0), 5);
    taken("a post on a house", whole, x -> x.caster(3, 5, 5, 1, 0), 5);
    taken("an awning on a house", whole, x -> x.awning(5, 5, 1, 0, 0), 5);
    taken("a house beside it", whole, x -> x.caster(0, 6, 5, 1, 0), 5);
    taken("a house on a tree", whole, x -> x.caster(0, 5, 6, 1, 0), 5);
    taken("a house on a post", whole, x -> x.caster(0, 4, 5, 1, 0), 5);
    taken("a house on an awning", whole, x -> x.caster(0, 7, 4, 1, 0), 5);
    taken("a house on one that is gone", whole, x -> x.caster(0, 9, 9, 1, 0), 5);
    refused("a house of no such height on a house", whole, x -> x.caster(0, 5, 5, 0, 0), NONE);
    refused("a house of no such owner on a house", whole, x -> x.caster(0, 5, 5, 1, 6), NONE);
    ShadeTown x = whole();
    x.down(0);
    due("where it is gone", x.caster(0, 5, 5, 1, 0), 5);
    due("and there again", x.caster(0, 5, 5, 1, 0), -2);
  }

  private static void sixteenCasters() {
    says(4, "NONE: 16 are there");
    ShadeTown x = new ShadeTown();
    for (int c = 0; c < 15; c++) {
      due("caster " + c, x.caster(c % 2 == 0 ? 1 : 3, 0, 0, 1, 0), c);
    }
    due("the 16th", x.caster(0, 0, 0, 1, 0), 15);
    due("CASTERS", x.count(0), 16);
    due("standing", x.count(1), 65535);
    Maker all = () -> {
      ShadeTown town = whole();
      for (int c = 5; c < 16; c++) {
        town.awning(c - 5, 0, 1, 0, 0);
      }
      return town;
    };
    due("sixteen in a whole town", all.make().count(0), 16);
    for (int kind : new int[] {0, 1, 3}) {
      refused("the 17th", all, town -> town.caster(kind, 1, 1, 1, 0), NONE);
    }
    refused("the 17th, a house on a house", all, town -> town.caster(0, 5, 5, 1, 0), NONE);
    says(5, "NONE: as above (16 are there)");
    refused("the 17th", all, town -> town.awning(1, 1, 1, 0, 0), NONE);
    x = new ShadeTown();
    for (int c = 0; c < 16; c++) {
      due("awning " + c, x.awning(0, 0, 1, 0, 0), c);
    }
    due("the 17th", x.awning(0, 0, 1, 0, 0), NONE);
  }

  private static void sixteenWithGoneOnes() {
    says(4, "16 are there (gone ones, too)");
    Maker full = TownTest::full;
    due("CASTERS", full().count(0), 16);
    due("standing", full().count(1), 65535 - 8 - 32768);
    for (int kind : new int[] {0, 1, 3}) {
      refused("the 17th", full, x -> x.caster(kind, 3, 3, 1, 0), NONE);
    }
    refused("an awning", full, x -> x.awning(3, 3, 1, 0, 0), NONE);
    ShadeTown x = new ShadeTown();
    for (int c = 0; c < 16; c++) {
      due("caster " + c, x.caster(0, 4, 4, 1, 0), c);
      due("down " + c, x.down(c), true);
    }
    due("all are gone", x.caster(0, 4, 4, 1, 0), NONE);
    due("all are gone", x.awning(4, 4, 1, 0, 0), NONE);
    due("standing", x.count(1), 0);
    due("FREE", x.count(8), 144);
  }

  private static void awningsInTheTown() {
    says(5, "an awning on its own SQUARE and so many in its DIRECTION that it is LENGTH together");
    // how many of its squares are in the town, by direction (north, east, south, west)
    int[][] places = {{0, 0, 3, 3, 1, 1}, {1, 1, 3, 3, 2, 2}, {2, 2, 3, 3, 3, 3}, {9, 9, 3, 3, 3, 3}, {10, 10, 2, 2, 3, 3},
        {11, 11, 1, 1, 3, 3}, {0, 11, 1, 3, 3, 1}, {11, 0, 3, 1, 1, 3}};
    int[][] ways = {{0, 1}, {1, 0}, {0, -1}, {-1, 0}};
    for (int[] place : places) {
      for (int direction = 0; direction < 4; direction++) {
        for (int length = 1; length <= 3; length++) {
          ShadeTown x = under("u(t=9);e9(1=1);n9(1=1)");
          due("awning", x.awning(place[0], place[1], length, direction, 0), 0);
          int want = Math.min(length, place[2 + direction]);
          due("squares of length " + length + " to " + direction, x.cast(0, 9), want);
          due("by night", x.cast(0, 8), 0);
          for (int k = 0; k < want; k++) {
            due("square " + k, x.shade(place[0] + k * ways[direction][0], place[1] + k * ways[direction][1], 9), 1);
          }
        }
      }
    }
  }

  private static void downOnce() {
    says(6, "A CASTER is gone: true; false: it is");
    Maker whole = TownTest::whole;
    for (int c = 0; c < 4; c++) {
      ShadeTown x = whole();
      due("down(" + c + ")", x.down(c), true);
      due("stands", x.casterIs(c, 5), 0);
      due("standing", x.count(1), 15 - (1 << c));
      due("CASTERS", x.count(0), 5);
      due("once more", x.down(c), false);
    }
    refused("one that is gone", whole, x -> bit(x.down(4)), 0);
    taken("the 16th", () -> {
      ShadeTown x = full();
      x.undo();
      return x;
    }, x -> bit(x.down(15)), 1);
    refused("the 16th that is gone", TownTest::full, x -> bit(x.down(15)), 0);
  }

  private static void onlyPostsMove() {
    says(7, "A standing post is moved to a FREE SQUARE: true; false: no such ones");
    Maker whole = TownTest::whole;
    refused("a house", whole, x -> bit(x.move(0, 0, 0)), 0);
    refused("a tree", whole, x -> bit(x.move(1, 0, 0)), 0);
    refused("an awning", whole, x -> bit(x.move(3, 0, 0)), 0);
    refused("a house that is gone", whole, x -> bit(x.move(4, 0, 0)), 0);
    refused("none", whole, x -> bit(x.move(5, 0, 0)), 0);
    refused("to a house", whole, x -> bit(x.move(2, 5, 5)), 0);
    taken("beside a house", whole, x -> bit(x.move(2, 6, 5)), 1);
    taken("to where it is", whole, x -> bit(x.move(2, 4, 5)), 1);
    taken("to a tree", whole, x -> bit(x.move(2, 5, 6)), 1);
    taken("to an awning", whole, x -> bit(x.move(2, 7, 4)), 1);
    taken("to a house that is gone", whole, x -> bit(x.move(2, 9, 9)), 1);
    refused("a post that is gone", () -> {
      ShadeTown x = whole();
      x.down(2);
      return x;
    }, x -> bit(x.move(2, 0, 0)), 0);
    ShadeTown x = whole();
    due("it casts where it is", x.shade(6, 5, 8), 5);
    x.move(2, 0, 10);
    due("no more", x.shade(6, 5, 8), 1);
    due("where it went", x.shade(2, 10, 8), 4);
    x.move(2, 11, 10);
    due("its SQUARE", x.casterIs(2, 1), 131);
    due("its HEIGHT", x.casterIs(2, 2), 6);
    due("its OWNER", x.casterIs(2, 4), 2);
    due("in FREE SQUARES nothing is changed", x.count(8), 143);
  }

  private static void seasons() {
    says(8, "SEASON (0 to 3; 0 at first)");
    ShadeTown x = under("u(m=0);e1+m(1=1);p1+m(1=1);w1+m(1=1)");
    x.buyer(0, 0, 0);
    due("at first", x.count(4), 0);
    due("up at first", x.sun(0, 0), 1);
    for (int m = 3; m >= 0; m--) {
      due("season(" + m + ")", x.season(m), true);
      due("count(4)", x.count(4), m);
      due("up", x.sun(0, 0), m == 0 ? 1 : 0);
      due("e", x.sun(0, 1), 1 + m);
      due("p", x.price(0, 0, 0), 1 + m);
      due("w", x.worth(0, 0, 0, 0), 1 + m);
    }
  }

  private static void casterIs() {
    says(9, "1 its SQUARE (number: 12 y and x), 2 HEIGHT (an awning: LENGTH), 3 DIRECTION (others: 0), 5 whether it stands");
    int[][] squares = {{0, 0, 0}, {11, 0, 11}, {0, 1, 12}, {11, 10, 131}, {0, 11, 132}, {11, 11, 143}};
    ShadeTown x = new ShadeTown();
    for (int k = 0; k < squares.length; k++) {
      due("caster", x.caster(3, squares[k][0], squares[k][1], 1 + k, k % 6), k);
      due("its SQUARE", x.casterIs(k, 1), squares[k][2]);
      due("its HEIGHT", x.casterIs(k, 2), 1 + k);
      due("its DIRECTION", x.casterIs(k, 3), 0);
      due("its OWNER", x.casterIs(k, 4), k);
    }
    for (int direction = 0; direction < 4; direction++) {
      int c = x.awning(5, 5, 3 - direction % 3, direction, 5 - direction);
      due("KIND", x.casterIs(c, 0), 2);
      due("LENGTH", x.casterIs(c, 2), 3 - direction % 3);
      due("DIRECTION", x.casterIs(c, 3), direction);
      due("OWNER", x.casterIs(c, 4), 5 - direction);
      due("it stands", x.casterIs(c, 5), 1);
      x.down(c);
      due("it is gone", x.casterIs(c, 5), 0);
      due("it is told all the same", x.casterIs(c, 0), 2);
      due("it is told all the same", x.casterIs(c, 3), direction);
    }
  }

  // ---- promises 10 to 13

  private static void sunWhetherUpOrNot() {
    says(10, "1 e, 2 n (these whether it is or not), 3 c");
    ShadeTown x = under("u(t=12);e0-9(1=1);n9(1=1);c10(1=1)");
    for (int hour = 11; hour <= 13; hour++) {
      due("up", x.sun(hour, 0), hour == 12 ? 1 : 0);
      due("e", x.sun(hour, 1), -9);
      due("n", x.sun(hour, 2), 9);
      due("c", x.sun(hour, 3), 10);
    }
    due("no such hour is not -9", x.sun(24, 1), -100);
  }

  private static void hoursOfTheSun() {
    says(11, "in an HOUR (0 to 23) in which the sun is up");
    ShadeTown x = under("u(t=0|t>5&t<19|t=23);e1(1=1)");
    x.caster(1, 0, 0, 12, 0);
    x.awning(1, 0, 1, 0, 0);
    int[] hours = {0, 1, 5, 6, 18, 19, 22, 23};
    boolean[] up = {true, false, false, true, true, false, false, true};
    for (int k = 0; k < hours.length; k++) {
      due("sun at " + hours[k], x.sun(hours[k], 0), up[k] ? 1 : 0);
      due("a tree's own at " + hours[k], x.shade(0, 0, hours[k]), up[k] ? 1 : 0);
      due("both at " + hours[k], x.shade(1, 0, hours[k]), up[k] ? 3 : 0);
    }
  }

  private static void lengthOfShade() {
    says(11, "for k from 1 to M times H through 12 (rounded down)");
    // e is the hour ahead of 10, n behind it: from a corner all eleven can be seen (so that 15 at most never matters)
    for (int height = 1; height <= 99; height++) {
      ShadeTown x = under("u(1=1);et(t<10);nt-10(t>9&t<20)");
      x.caster(3, 0, 0, height, 0);
      x.caster(1, 0, 0, height, 0);
      x.caster(0, 0, 0, height, 0);
      for (int m = 0; m < 10; m++) {
        int squares = 0;
        while (squares < 11 && 12 * (squares + 1) <= m * height) {
          squares++;
        }
        due("a post " + height + " high, e " + m, x.cast(0, m), squares);
        due("a post " + height + " high, n " + m, x.cast(0, 10 + m), squares);
        due("a house " + height + " high, e " + m, x.cast(2, m), squares);
        if (squares > 0) due("its last", x.shade(squares, 0, m), 7);
        if (squares < 11) due("no more", x.shade(squares + 1, 0, m), 0);
      }
    }
    ShadeTown x = under("u(1=1);e1(t=1);e9(t=9)");
    x.caster(3, 0, 0, 11, 0);
    x.caster(3, 0, 1, 12, 0);
    x.caster(3, 0, 2, 23, 0);
    x.caster(3, 0, 3, 24, 0);
    x.caster(3, 0, 4, 1, 0);
    x.caster(3, 0, 5, 2, 0);
    x.caster(3, 0, 6, 99, 0);
    int[] ones = {0, 1, 1, 2, 0, 0, 8};
    int[] nines = {8, 9, 11, 11, 0, 1, 11};
    for (int c = 0; c < 7; c++) {
      due("e 1", x.cast(c, 1), ones[c]);
      due("e 9", x.cast(c, 9), nines[c]);
      due("e 0", x.cast(c, 0), 0);
    }
  }

  private static void shadeInTheTown() {
    says(11, "as far as they are in the town");
    // the eight ways, three squares each
    int[][] ways = {{1, 0}, {1, 1}, {0, 1}, {-1, 1}, {-1, 0}, {-1, -1}, {0, -1}, {1, -1}};
    int[][] places = {{0, 0}, {11, 11}, {0, 11}, {11, 0}, {2, 9}, {9, 2}, {8, 8}, {3, 3}, {10, 1}};
    for (int[] way : ways) {
      ShadeTown x = under("u(1=1);e3*[" + (way[0] + 1) + "-1](1=1);n3*[" + (way[1] + 1) + "-1](1=1)");
      for (int[] place : places) {
        int c = x.caster(3, place[0], place[1], 12, 0);
        int squares = 0;
        for (int k = 1; k <= 3; k++) {
          int px = place[0] + k * way[0], py = place[1] + k * way[1];
          boolean in = px >= 0 && px <= 11 && py >= 0 && py <= 11;
          squares += in ? 1 : 0;
          if (in) due("on " + px + ", " + py, x.shade(px, py, 0) >> c & 1, 1);
        }
        due("squares in the town", x.cast(c, 0), squares);
      }
    }
  }

  private static void shadeTowardZero() {
    says(11, "x and E times k through M, y and N times k through M (toward 0)");
    // 9 one way and -8 to 8 the other: by how much at k = 1 to 5
    for (int minor = -8; minor <= 8; minor++) {
      String e = minor < 0 ? "0-" + -minor : "" + minor;
      for (int turn = 0; turn < 4; turn++) {
        String major = turn % 2 == 0 ? "9" : "0-9";
        boolean east = turn < 2;
        ShadeTown x = under("u(1=1);e" + (east ? major : e) + "(1=1);n" + (east ? e : major) + "(1=1)");
        int middle = 6;
        x.caster(3, middle, middle, 7, 0);
        due("five squares", x.cast(0, 0), 5);
        for (int k = 1; k <= 5; k++) {
          int far = turn % 2 == 0 ? k : -k;
          // how often 9 goes into it without sign, the sign put back
          int aside = 0;
          while (9 * (aside + 1) <= Math.abs(minor) * k) {
            aside++;
          }
          aside = minor < 0 ? -aside : aside;
          int px = middle + (east ? far : aside);
          int py = middle + (east ? aside : far);
          due("k " + k + " of " + major + " and " + e, x.shade(px, py, 0), 1);
        }
      }
    }
    ShadeTown x = under("u(1=1);e2(1=1);n0-1(1=1)");
    x.caster(3, 0, 5, 24, 0);
    int[] rows = {5, 4, 4, 3};
    for (int k = 1; k <= 4; k++) {
      due("2 and -1, k " + k, x.shade(k, rows[k - 1], 0), 1);
    }
    due("no fifth", x.cast(0, 0), 4);
  }

  private static void greaterWithoutSign() {
    says(11, "M the greater of both without sign");
    int[][] rows = {{-5, 3, 5}, {3, -5, 5}, {-4, 4, 4}, {4, -4, 4}, {-3, -5, 5}, {0, -2, 2}, {-2, 0, 2}, {1, 1, 1}, {0, 0, 0}};
    for (int[] row : rows) {
      ShadeTown x = under("u(1=1);e" + (row[0] + 9) + "-9(1=1);n" + (row[1] + 9) + "-9(1=1)");
      x.caster(3, 6, 6, 12, 0);
      x.caster(1, 6, 6, 12, 0);
      due(row[0] + " and " + row[1], x.cast(0, 0), row[2]);
      due("a tree, its own, too", x.cast(1, 0), row[2] + 1);
      if (row[2] > 0) due("the last one", x.shade(6 + row[0], 6 + row[1], 0), 3);
    }
  }

  private static void behindOthers() {
    says(11, "as far as they are in the town (also behind others)");
    ShadeTown x = under("u(1=1);e9(1=1)");
    x.caster(3, 0, 0, 8, 0);
    due("six", x.cast(0, 0), 6);
    x.caster(1, 1, 0, 99, 1);
    x.caster(3, 2, 0, 99, 1);
    x.awning(3, 0, 1, 0, 1);
    due("behind a tree, a post, an awning", x.cast(0, 0), 6);
    x.caster(0, 4, 0, 99, 1);
    due("behind a house, not on it", x.cast(0, 0), 5);
    due("on the house", x.shade(4, 0, 0), 0);
    due("behind the house", x.shade(5, 0, 0), 1 + 2 + 4 + 16);
    due("its last", x.shade(6, 0, 0) & 1, 1);
    due("no more", x.shade(7, 0, 0) & 1, 0);
  }

  private static void ownSquare() {
    says(11, "a tree on its own SQUARE, too");
    ShadeTown x = under("u(1=1);e9(t=1)");
    x.caster(1, 0, 0, 1, 0);
    x.caster(3, 1, 1, 1, 0);
    x.caster(0, 2, 2, 1, 0);
    x.caster(1, 3, 3, 99, 0);
    due("a tree without length", x.shade(0, 0, 0), 1);
    due("a tree whose shade is too short", x.shade(0, 0, 1), 1);
    due("a post without length", x.shade(1, 1, 0), 0);
    due("a house without length", x.shade(2, 2, 0), 0);
    due("a tall tree without length", x.cast(3, 0), 1);
    due("a tall tree", x.cast(3, 1), 9);
    x.caster(0, 0, 0, 1, 0);
    due("a house on the tree", x.shade(0, 0, 0), 0);
    x.down(4);
    due("the house is gone", x.shade(0, 0, 0), 1);
  }

  private static void notFree() {
    says(11, "On a SQUARE that is not FREE nobody casts");
    ShadeTown x = under("u(1=1);e1(1=1)");
    x.caster(3, 0, 0, 12, 0);
    x.caster(1, 1, 0, 1, 0);
    x.awning(1, 0, 1, 0, 0);
    due("all three", x.shade(1, 0, 0), 7);
    due("FREE", x.count(8), 144);
    int house = x.caster(0, 1, 0, 1, 0);
    due("nobody", x.shade(1, 0, 0), 0);
    due("FREE", x.count(8), 143);
    due("the tree casts on none", x.cast(1, 24), 0);
    due("s is 0", x.longest(1, 0, 0), 0);
    x.down(house);
    due("all three", x.shade(1, 0, 0), 7);
    due("FREE", x.count(8), 144);
  }

  private static void sixteenOnOneSquare() {
    says(11, "Who casts on a SQUARE in an HOUR (bits)");
    ShadeTown x = under("u(1=1);p50+s(1=1)");
    for (int c = 0; c < 16; c++) {
      due("before caster " + c, x.shade(5, 5, 23), (1 << c) - 1);
      x.caster(1, 5, 5, 1 + c, c % 6);
      due("s", x.price(5, 5, 23), 51 + c);
    }
    due("all sixteen", x.shade(5, 5, 23), 65535);
    x.down(0);
    x.down(15);
    due("fourteen", x.shade(5, 5, 23), 32766);
  }

  private static void pricesByWhoCasts() {
    says(12, "The PRICE of a SQUARE for an HOUR (0 to 99)");
    ShadeTown x = under("u(t=1);p[x+y]*9/2+s*t-1(1=1)");
    x.awning(0, 0, 1, 0, 0);
    due("below 0", x.price(0, 0, 0), 0);
    due("0", x.price(0, 0, 1), 0);
    x.awning(0, 0, 1, 0, 0);
    due("1", x.price(0, 0, 1), 1);
    due("98 at 11, 11", x.price(11, 11, 1), 98);
    x.awning(11, 11, 1, 0, 0);
    due("99 at 11, 11", x.price(11, 11, 1), 99);
    x.awning(11, 11, 1, 0, 0);
    due("no more than 99", x.price(11, 11, 1), 99);
  }

  private static void castByHourAndDay() {
    says(13, "CAST: by a CASTER in an HOUR, a DAY (all HOURS; SEASON as it is): on how many SQUARES (in HOURS)");
    ShadeTown x = under("u(m=1&t=0|m=1&t=23|m=2);e3(t=23)");
    x.caster(1, 0, 0, 12, 0);
    x.caster(0, 2, 0, 12, 0);
    due("no sun", x.cast(0, 24), 0);
    x.season(1);
    due("the first hour", x.cast(0, 0), 1);
    due("the last hour, without the house's square", x.cast(0, 23), 3);
    due("the day", x.cast(0, 24), 4);
    due("the house", x.cast(1, 24), 3);
    x.season(2);
    due("all hours", x.cast(0, 24), 26);
    x.down(0);
    due("gone, in an hour", x.cast(0, 23), 0);
    due("gone, in a day", x.cast(0, 24), 0);
  }

  // ---- promises 14 to 16

  private static void parts() {
    says(14, "PARTS: each of those who cast on it has one through how many they are; without a common divisor");
    for (int n = 1; n <= 16; n++) {
      ShadeTown x = under("u(t=5)");
      for (int c = 0; c < n; c++) {
        x.awning(3, 3, 1, 0, c == 0 ? 0 : 5);
      }
      due("one of " + n, x.led(0, 0), 1);
      due("below", x.led(0, 1), n);
      due("the others of " + n, x.led(5, 0), n == 1 ? 0 : n - 1);
      due("below", x.led(5, 1), n == 1 ? 1 : n);
      due("an owner of none", x.led(1, 0), 0);
      due("below", x.led(1, 1), 1);
    }
    // one of 16, 15, .. 1 on squares of their own: not all of them fit, so a half, a third and a quarter
    ShadeTown x = under("u(t=5)");
    int[] numbers = {2, 3, 4};
    for (int k = 0; k < 3; k++) {
      for (int c = 0; c < numbers[k]; c++) {
        x.awning(k, 0, 1, 0, c == 0 ? 2 : 3);
      }
    }
    due("1/2 and 1/3 and 1/4", x.led(2, 0), 13);
    due("below", x.led(2, 1), 12);
    due("1/2 and 2/3 and 3/4", x.led(3, 0), 23);
    due("below", x.led(3, 1), 12);
    lawOf(x, "u(1=1)");
    due("24 times 13/12", x.led(2, 0), 26);
    due("below", x.led(2, 1), 1);
    lawOf(x, "u(1=2)");
    due("no sun", x.led(2, 0), 0);
    due("below", x.led(2, 1), 1);
    // 7, 11, 13 and 16 have no common divisor: hours of 7, then of 11
    x = under("u(1=1);e1(t=0)");
    for (int c = 0; c < 7; c++) {
      x.awning(1, 0, 1, 0, c == 0 ? 2 : 3);
    }
    for (int c = 7; c < 11; c++) {
      x.caster(3, 0, 0, 12, 4);
    }
    // at 0 eleven cast, in 23 hours seven: 23/7 and 1/11
    due("23/7 and 1/11", x.led(2, 0), 23 * 11 + 7);
    due("below", x.led(2, 1), 77);
    due("6 times that", x.led(3, 0), 6 * (23 * 11 + 7));
    due("4/11", x.led(4, 0), 4);
    due("below", x.led(4, 1), 11);
  }

  private static void ledToGoneOnes() {
    says(14, "LED to an OWNER in the DAY");
    ShadeTown x = corners();
    due("one corner", x.led(2, 0), 24);
    x.down(2);
    due("gone", x.led(2, 0), 0);
    due("gone, below", x.led(2, 1), 1);
    x.caster(0, 0, 0, 1, 3);
    due("under a house", x.led(0, 0), 0);
    due("the house itself", x.led(3, 0), 0);
  }

  private static void longestRows() {
    says(15, "the most HOURS one behind the other in which the sun is up and somebody casts on it; the first such row");
    String[] laws = {"u(t=3|t=7)", "u(t=3|t>6&t<9)", "u(t>2&t<5|t>6&t<9)", "u(t>2&t<6|t>6&t<9)", "u(1=2)", "u(1=1)", "u(!t=12)"};
    int[] hours = {1, 2, 2, 3, 0, 24, 12};
    int[] firsts = {3, 7, 3, 3, -2, 0, 0};
    for (int k = 0; k < laws.length; k++) {
      ShadeTown x = under(laws[k]);
      x.awning(4, 4, 1, 0, 0);
      due(laws[k], x.longest(4, 4, 0), hours[k]);
      due(laws[k] + ", the first", x.longest(4, 4, 1), firsts[k]);
      due("beside it", x.longest(5, 4, 0), 0);
      due("beside it, -2: none", x.longest(5, 4, 1), -2);
    }
    // one casts after the other: it is one row
    ShadeTown x = under("u(1=1);e1(t>4&t<8);e0-1(t>7&t<10)");
    x.caster(3, 3, 4, 12, 0);
    x.caster(3, 5, 4, 12, 1);
    due("three of one, two of another", x.longest(4, 4, 0), 5);
    due("from 5 on", x.longest(4, 4, 1), 5);
  }

  private static void longestAtBothEnds() {
    says(15, "1 the first one (-2: none)");
    ShadeTown x = under("u(t=0)");
    x.awning(0, 0, 1, 0, 0);
    due("hour 0", x.longest(0, 0, 0), 1);
    due("hour 0 is no none", x.longest(0, 0, 1), 0);
    lawOf(x, "u(t=23)");
    due("hour 23", x.longest(0, 0, 0), 1);
    due("hour 23", x.longest(0, 0, 1), 23);
    lawOf(x, "u(t<2|t>20)");
    due("behind 23 the day ends", x.longest(0, 0, 0), 3);
    due("behind 23 the day ends", x.longest(0, 0, 1), 21);
    lawOf(x, "u(t<3|t>20)");
    due("like ones at both ends", x.longest(0, 0, 0), 3);
    due("the first", x.longest(0, 0, 1), 0);
    x.caster(0, 0, 0, 1, 0);
    due("not FREE", x.longest(0, 0, 0), 0);
    due("not FREE", x.longest(0, 0, 1), -2);
  }

  private static void donkeyBehindTheNorth() {
    says(16, "on a FREE SQUARE whose neighbour to the south has a standing house; -2: there is none");
    ShadeTown x = under("u(t<10);n1(1=1)");
    due("no house", x.donkey(0), -2);
    due("no house", x.donkey(1), -2);
    x.caster(1, 4, 4, 99, 0);
    x.caster(3, 4, 4, 99, 0);
    x.awning(4, 4, 3, 0, 0);
    due("a tree, a post, an awning", x.donkey(0), -2);
    int house = x.caster(0, 7, 11, 99, 0);
    due("behind the town's north there is nothing", x.donkey(0), -2);
    due("behind the town's north there is nothing", x.donkey(1), -2);
    x.down(house);
    house = x.caster(0, 7, 10, 11, 0);
    due("in the last row", x.donkey(0), 139);
    due("in the sun", x.donkey(1), 0);
    x.caster(0, 7, 11, 12, 0);
    due("not FREE", x.donkey(0), -2);
    int first = x.caster(0, 3, 0, 12, 0);
    due("in the second row", x.donkey(0), 15);
    due("in shade", x.donkey(1), 10);
    x.down(first);
    due("a house that is gone", x.donkey(0), -2);
  }

  private static void donkeyOfLikeOnes() {
    says(16, "where LONGEST is most; of like ones the lowest SQUARE");
    ShadeTown x = under("u(t<10);n1(1=1)");
    x.caster(0, 8, 5, 12, 0);
    due("one", x.donkey(0), 80);
    x.caster(0, 9, 5, 12, 0);
    due("the lower of two", x.donkey(0), 80);
    x.caster(0, 2, 5, 12, 0);
    due("a lower one told later", x.donkey(0), 74);
    x.caster(0, 9, 2, 11, 0);
    due("a lower one in the sun", x.donkey(0), 74);
    x.caster(0, 9, 1, 12, 0);
    due("its north is not FREE", x.donkey(0), 74);
    x.caster(0, 1, 1, 12, 0);
    due("the lowest row", x.donkey(0), 25);
    due("hours", x.donkey(1), 10);
    lawOf(x, "u(t<10);n1(1=1);u(t<12)");
    x.awning(8, 6, 1, 0, 0);
    due("like hours", x.donkey(0), 25);
    lawOf(x, "u(t<12);n1(t<11)");
    due("one hour more by an awning", x.donkey(0), 80);
    due("hours", x.donkey(1), 12);
    // the longest row counts, not all hours: 2 and 2 north of a house, 3 north of another by a post beside it
    x = under("u(1=1);n1(t=2|t=3|t=5|t=6);e1(t>9&t<13)");
    x.caster(0, 1, 1, 12, 0);
    x.caster(0, 5, 1, 6, 0);
    due("2 and 2", x.donkey(0), 25);
    due("2 and 2", x.donkey(1), 2);
    x.caster(3, 4, 2, 12, 0);
    due("3 behind one another", x.donkey(0), 29);
    due("3 behind one another", x.donkey(1), 3);
  }
}
