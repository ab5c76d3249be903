// Promises 22 to 29: wishes, storeys, awnings, hats, what is taken down, noon by turns; each sentence that names a bound, on both sides.
public final class BoundsOfWishes extends TownTest {
  public static void main(String[] args) {
    wishArguments();
    wishHours();
    wishInPlace();
    keptHours();
    keptOnFreeSquares();
    notToldIsNotKept();
    happyOfAll();
    storeyArguments();
    twelveHigher();
    ninetyNineAtMost();
    storeyBySides();
    storeyChangesNothing();
    awningArguments();
    awningOfLikeOnes();
    awningOfFreeSquares();
    awningAgainstSun();
    awningBesideSixteen();
    hatArguments();
    hatOfPostsAlone();
    hatGetsAndLoses();
    takenDownBySun();
    takenDownByHours();
    takenDownHouses();
    takenDownSixteen();
    takenDownOneByOne();
    noonArguments();
    noonPlaces();
    noonEightAtMost();
    noonByTurns();
    end();
  }

  // ---- promise 22

  private static void wishArguments() {
    says(22, "WISHES 0 to 15: at a SQUARE, of a WEIGHT (1 to 99); false: no such ones");
    Maker whole = TownTest::whole;
    for (int side = 0; side < 2; side++) {
      boolean sun = side == 1;
      range("k of wish", whole, 0, 15, 1, 1, 0, (x, v) -> bit(x.wish(v, 3, 3, 0, 24, sun, 7)));
      range("x of wish", whole, 0, 11, 1, 1, 0, (x, v) -> bit(x.wish(0, v, 3, 0, 24, sun, 7)));
      range("y of wish", whole, 0, 11, 1, 1, 0, (x, v) -> bit(x.wish(15, 3, v, 0, 24, sun, 7)));
      range("weight of wish", whole, 1, 99, 1, 1, 0, (x, v) -> bit(x.wish(1, 3, 3, 0, 24, sun, v)));
    }
    ShadeTown x = under("u(1=1)");
    for (int k = 0; k < 16; k++) {
      due("not told yet", x.kept(k), NONE);
      due("wish " + k, x.wish(k, k % 12, 11, 0, 1, true, 1), true);
      due("told", x.count(7), (1 << k + 1) - 1);
      due("kept", x.kept(k), 1);
    }
    due("weights", x.happy(), 16);
    x.wish(0, 0, 11, 0, 1, true, 99);
    due("a weight of 99", x.happy(), 15 + 99);
    due("on a house", x.caster(0, 2, 2, 1, 0), 0);
    due("on a house", x.wish(0, 2, 2, 0, 1, true, 1), true);
  }

  private static void wishHours() {
    says(22, "from an HOUR to another one (not with it)");
    Maker whole = TownTest::whole;
    range("from of wish", whole, 0, 23, 1, 1, 0, (x, v) -> bit(x.wish(0, 3, 3, v, 24, true, 7)));
    range("to of wish", whole, 1, 24, 1, 1, 0, (x, v) -> bit(x.wish(0, 3, 3, 0, v, false, 7)));
    int[][] none = {{0, 0}, {23, 23}, {12, 12}, {24, 24}, {13, 12}, {24, 25}, {23, 25}, {-1, 0}, {-1, 24}, {24, 0}, {23, 0}};
    for (int[] hours : none) {
      refused("from " + hours[0] + " to " + hours[1], whole, x -> bit(x.wish(0, 3, 3, hours[0], hours[1], true, 7)), 0);
    }
    taken("one hour", whole, x -> bit(x.wish(0, 3, 3, 12, 13, true, 7)), 1);
    taken("the last hour", whole, x -> bit(x.wish(0, 3, 3, 23, 24, true, 7)), 1);
    taken("all hours", whole, x -> bit(x.wish(0, 3, 3, 0, 24, true, 7)), 1);
  }

  private static void wishInPlace() {
    says(22, "A WISH (in place of the one before)");
    ShadeTown x = under("u(1=1)");
    x.awning(3, 3, 1, 0, 0);
    x.wish(4, 3, 3, 0, 24, false, 5);
    due("shade", x.happy(), 120);
    x.wish(4, 3, 3, 0, 24, true, 5);
    due("sun", x.happy(), 0);
    due("sun", x.kept(4), 0);
    x.wish(4, 4, 3, 7, 9, true, 6);
    due("elsewhere", x.happy(), 12);
    due("one is told", x.count(7), 16);
    due("refused", x.wish(4, 4, 3, 7, 9, true, 100), false);
    due("as before", x.happy(), 12);
  }

  // ---- promises 23 and 24

  private static void keptHours() {
    says(23, "KEPT is an HOUR of a WISH, if the sun is up (from an HOUR to another one, not with it)");
    ShadeTown x = under("u(t=12)");
    x.awning(3, 3, 1, 0, 0);
    int[][] rows = {{0, 12, 0}, {0, 13, 1}, {12, 13, 1}, {13, 14, 0}, {12, 24, 1}, {13, 24, 0}, {11, 12, 0}};
    for (int[] row : rows) {
      String hours = row[0] + " to " + row[1];
      x.wish(0, 3, 3, row[0], row[1], false, 1);
      due("shade, " + hours, x.kept(0), row[2]);
      x.wish(0, 4, 3, row[0], row[1], true, 1);
      due("sun, " + hours, x.kept(0), row[2]);
      x.wish(0, 3, 3, row[0], row[1], true, 1);
      due("sun where somebody casts, " + hours, x.kept(0), 0);
      x.wish(0, 4, 3, row[0], row[1], false, 1);
      due("shade where nobody casts, " + hours, x.kept(0), 0);
    }
    lawOf(x, "u(1=1)");
    x.wish(0, 3, 3, 0, 24, false, 1);
    due("all hours", x.kept(0), 24);
    x.wish(0, 3, 3, 23, 24, false, 1);
    due("the last hour", x.kept(0), 1);
    x.wish(0, 3, 3, 0, 1, false, 1);
    due("the first hour", x.kept(0), 1);
  }

  private static void keptOnFreeSquares() {
    says(23, "KEPT, if the SQUARE is FREE");
    ShadeTown x = under("u(t<10)");
    x.awning(3, 3, 1, 0, 0);
    x.wish(0, 3, 3, 0, 24, false, 1);
    x.wish(1, 4, 3, 0, 24, true, 1);
    due("shade", x.kept(0), 10);
    due("sun", x.kept(1), 10);
    x.caster(0, 3, 3, 1, 0);
    x.caster(0, 4, 3, 1, 0);
    due("shade on a house", x.kept(0), 0);
    due("sun on a house", x.kept(1), 0);
    due("happy", x.happy(), 0);
    x.down(1);
    x.down(2);
    due("shade", x.kept(0), 10);
    due("sun", x.kept(1), 10);
  }

  private static void notToldIsNotKept() {
    says(23, "NONE: no such one");
    Maker whole = TownTest::whole;
    taken("kept(0)", whole, x -> x.kept(0), 0);
    taken("kept(1)", whole, x -> x.kept(1), 4);
    taken("kept(15)", whole, x -> x.kept(15), 13);
    for (int k = 2; k < 15; k++) {
      int wish = k;
      refused("kept(" + k + ")", whole, x -> x.kept(wish), NONE);
    }
    refusedBeyond("k of kept", whole, 0, 15, NONE, (x, v) -> x.kept(v));
  }

  private static void happyOfAll() {
    says(24, "HAPPY: WEIGHTS of all HOURS that are KEPT, together");
    due("a whole town", whole().happy(), 13 * 99 + 4 * 2);
    ShadeTown x = under("u(1=1)");
    due("no wishes", x.happy(), 0);
    for (int k = 0; k < 16; k++) {
      x.wish(k, 5, 5, 0, 24, true, 99);
      due("the most of " + k, x.happy(), 24 * 99 * (k + 1));
    }
    x.awning(5, 5, 1, 0, 0);
    due("nobody in the sun", x.happy(), 0);
    for (int k = 0; k < 16; k++) {
      x.wish(k, 5, 5, 0, 24, false, 99);
    }
    due("all in shade", x.happy(), 24 * 99 * 16);
    lawOf(x, "u(1=2)");
    due("by night", x.happy(), 0);
  }

  // ---- promise 25

  private static void storeyArguments() {
    says(25, "A STOREY on a standing house; -100000: no such ones");
    Maker whole = TownTest::whole;
    taken("storey(0, 0)", whole, x -> x.storey(0, 0), 0);
    taken("storey(0, 1)", whole, x -> x.storey(0, 1), 0);
    refusedBeyond("what of storey", whole, 0, 1, -100000, (x, v) -> x.storey(0, v));
    for (int what = 0; what < 2; what++) {
      int w = what;
      refused("a tree", whole, x -> x.storey(1, w), -100000);
      refused("a post", whole, x -> x.storey(2, w), -100000);
      refused("an awning", whole, x -> x.storey(3, w), -100000);
      refused("a house that is gone", whole, x -> x.storey(4, w), -100000);
      refused("none", whole, x -> x.storey(5, w), -100000);
      refusedBeyond("c of storey", whole, 0, 4, -100000, (x, v) -> x.storey(v, w));
      refusedBeyond("c of storey", TownTest::full, 0, 15, -100000, (x, v) -> x.storey(v, w));
    }
  }

  /** A house at 0, 0 with one square to the east for each 12; a wish far to the east, kept in one hour. */
  private static ShadeTown tower(int height, int far, boolean sun) {
    ShadeTown x = under("u(t=9);e1(1=1)");
    x.caster(0, 0, 0, height, 0);
    x.wish(0, far, 0, 0, 24, sun, 5);
    return x;
  }

  private static void twelveHigher() {
    says(25, "A STOREY: a house 12 higher");
    // height, distance, whether the shade comes there
    int[][] rows = {{1, 1, 1}, {1, 2, 0}, {11, 1, 1}, {11, 2, 0}, {12, 1, 0}, {12, 2, 1}, {12, 3, 0}, {23, 2, 1}, {24, 2, 0}, {24, 3, 1},
        {83, 7, 1}, {83, 8, 0}, {84, 8, 1}, {84, 9, 0}};
    for (int[] row : rows) {
      String name = row[0] + " high, " + row[1] + " far";
      due(name + ", shade", tower(row[0], row[1], false).storey(0, 0), 5 * row[2]);
      due(name + ", sun of shade", tower(row[0], row[1], false).storey(0, 1), 0);
      due(name + ", sun", tower(row[0], row[1], true).storey(0, 1), 5 * row[2]);
      due(name + ", shade of sun", tower(row[0], row[1], true).storey(0, 0), 0);
    }
  }

  private static void ninetyNineAtMost() {
    says(25, "A STOREY: a house 12 higher (99 at most)");
    // from 96 on 12 more would be 108 and cast on a ninth square
    int[][] rows = {{87, 8, 1}, {88, 8, 1}, {95, 8, 1}, {95, 9, 0}, {96, 8, 0}, {96, 9, 0}, {97, 9, 0}, {98, 9, 0}, {99, 9, 0}, {99, 8, 0}};
    for (int[] row : rows) {
      String name = row[0] + " high, " + row[1] + " far";
      due(name + ", shade", tower(row[0], row[1], false).storey(0, 0), 5 * row[2]);
      due(name + ", sun", tower(row[0], row[1], true).storey(0, 1), 5 * row[2]);
    }
  }

  private static void storeyBySides() {
    says(25, "what 0 more by WISHES for shade, 1 less by those for sun");
    ShadeTown x = under("u(t<10);e1(t<4)");
    x.caster(0, 0, 0, 12, 0);
    x.wish(0, 2, 0, 0, 24, false, 3);
    x.wish(1, 2, 0, 0, 24, true, 7);
    due("four hours of shade more", x.storey(0, 0), 12);
    due("four hours of sun less", x.storey(0, 1), 28);
    x.awning(2, 0, 1, 0, 0);
    due("in shade already", x.storey(0, 0), 0);
    due("in shade already", x.storey(0, 1), 0);
    x.down(1);
    x.caster(0, 2, 0, 1, 0);
    due("not FREE", x.storey(0, 0), 0);
    due("not FREE", x.storey(0, 1), 0);
    due("behind that house", x.wish(0, 3, 0, 0, 24, false, 3), true);
    due("not so far", x.storey(0, 0), 0);
    due("of that house itself", x.storey(2, 0), 12);
  }

  private static void storeyChangesNothing() {
    says(25, "A STOREY is asked for, not built");
    refused("storey", () -> tower(12, 2, false), x -> x.storey(0, 0), 5);
    ShadeTown x = tower(12, 2, false);
    x.storey(0, 0);
    due("HEIGHT", x.casterIs(0, 2), 12);
    due("it casts as before", x.cast(0, 9), 1);
    due("asked again", x.storey(0, 0), 5);
  }

  // ---- promise 26

  private static void awningArguments() {
    says(26, "THE BEST AWNING of a LENGTH (1 to 3); NONE: no such ones");
    Maker corners = TownTest::corners;
    range("length of bestAwning", corners, 1, 3, 0, 0, NONE, (x, v) -> x.bestAwning(v, 0));
    range("what of bestAwning", corners, 0, 2, 0, 0, NONE, (x, v) -> x.bestAwning(2, v));
    taken("HAPPY then", TownTest::whole, x -> x.bestAwning(1, 2), 13 * 99 + 4 * 2);
    refused("it is asked for, not built", TownTest::whole, x -> x.bestAwning(3, 2), 13 * 99 + 4 * 2);
  }

  private static void awningOfLikeOnes() {
    says(26, "by which HAPPY is most; of like ones the lowest SQUARE, then DIRECTION");
    // a wish in the middle: length 1 on it, longer ones from the lowest square that comes to it
    int[] squares = {65, 53, 41};
    for (int length = 1; length <= 3; length++) {
      ShadeTown x = under("u(t<10)");
      x.wish(0, 5, 5, 0, 24, false, 2);
      due("SQUARE of " + length, x.bestAwning(length, 0), squares[length - 1]);
      due("DIRECTION of " + length, x.bestAwning(length, 1), 0);
      due("HAPPY of " + length, x.bestAwning(length, 2), 20);
    }
    // in the corners: 0 from 0 to the north; 143 from the south; 11, 132
    int[][] corners = {{0, 0, 0, 0}, {11, 11, 119, 0}, {11, 0, 9, 1}, {0, 11, 108, 0}};
    for (int[] corner : corners) {
      ShadeTown x = under("u(t<10)");
      x.wish(0, corner[0], corner[1], 0, 24, false, 2);
      due("SQUARE", x.bestAwning(3, 0), corner[2]);
      due("DIRECTION", x.bestAwning(3, 1), corner[3]);
    }
    // two wishes side by side: to the east from the western one; the three of a row: from the first
    ShadeTown x = under("u(t<10)");
    x.wish(0, 6, 5, 0, 24, false, 2);
    x.wish(1, 7, 5, 0, 24, false, 2);
    due("two", x.bestAwning(2, 0), 66);
    due("two", x.bestAwning(2, 1), 1);
    due("two", x.bestAwning(2, 2), 40);
    due("three: one ahead will do", x.bestAwning(3, 0), 65);
    due("three", x.bestAwning(3, 1), 1);
    x.wish(2, 8, 5, 0, 24, false, 1);
    due("three wishes", x.bestAwning(3, 0), 66);
    due("three wishes", x.bestAwning(3, 2), 50);
    x.caster(0, 6, 5, 1, 0);
    due("from the east, to the west", x.bestAwning(3, 0), 67);
    due("from the east, to the east", x.bestAwning(3, 1), 1);
    due("without the one on a house", x.bestAwning(3, 2), 30);
    x.caster(0, 7, 5, 1, 0);
    due("one is left", x.bestAwning(3, 2), 10);
    due("from the south", x.bestAwning(3, 0), 44);
    // from the south nothing is FREE, nor from the west: then from its own square, to the north
    x = under("u(t<10)");
    x.wish(0, 5, 1, 0, 24, false, 2);
    x.caster(0, 5, 0, 1, 0);
    due("from the west by two", x.bestAwning(3, 0), 15);
    due("to the east", x.bestAwning(3, 1), 1);
    x.caster(0, 3, 1, 1, 0);
    x.caster(0, 4, 1, 1, 0);
    due("its own", x.bestAwning(3, 0), 17);
    due("to the north", x.bestAwning(3, 1), 0);
    x.wish(1, 5, 2, 0, 24, true, 1);
    due("its own, not to the north", x.bestAwning(3, 1), 1);
    x.wish(2, 6, 1, 0, 24, true, 1);
    due("its own, to the south", x.bestAwning(3, 1), 2);
    x.down(0);
    x.wish(3, 5, 0, 0, 24, true, 1);
    due("its own still", x.bestAwning(3, 0), 17);
    due("its own, to the west", x.bestAwning(3, 1), 3);
  }

  private static void awningOfFreeSquares() {
    says(26, "SQUARE and DIRECTION (of a FREE SQUARE)");
    ShadeTown x = under("u(t<10)");
    due("no wishes: the lowest", x.bestAwning(1, 0), 0);
    due("no wishes: the lowest", x.bestAwning(1, 1), 0);
    for (int k = 0; k < 12; k++) {
      x.caster(0, k, 0, 1, 0);
      due("the lowest that is FREE", x.bestAwning(1, 0), k + 1);
    }
    x.down(5);
    due("the lowest that is FREE", x.bestAwning(1, 0), 5);
    // it may go over a house
    x = under("u(t<10)");
    x.wish(0, 2, 0, 0, 24, false, 2);
    x.caster(0, 1, 0, 1, 0);
    due("over a house", x.bestAwning(3, 0), 0);
    due("over a house", x.bestAwning(3, 1), 1);
    due("over a house", x.bestAwning(3, 2), 20);
    due("not over a house", x.bestAwning(2, 0), 2);
  }

  private static void awningAgainstSun() {
    says(26, "by which HAPPY is most");
    ShadeTown x = under("u(t<10)");
    x.wish(0, 0, 0, 0, 24, true, 2);
    for (int length = 1; length <= 3; length++) {
      due("not on who wants sun", x.bestAwning(length, 0), 1);
      due("to the north", x.bestAwning(length, 1), 0);
      due("as before", x.bestAwning(length, 2), 20);
    }
    x.wish(1, 0, 0, 0, 24, false, 2);
    due("like weights: the lowest", x.bestAwning(1, 0), 0);
    due("like weights", x.bestAwning(1, 2), 20);
    x.wish(1, 0, 0, 0, 24, false, 3);
    due("one more for shade", x.bestAwning(1, 0), 0);
    due("one more for shade", x.bestAwning(1, 2), 30);
    x.wish(1, 0, 0, 0, 9, false, 2);
    due("an hour less for shade", x.bestAwning(1, 0), 1);
    due("by night", x.wish(1, 0, 0, 10, 24, false, 99), true);
    due("by night", x.bestAwning(1, 0), 1);
  }

  private static void awningBesideSixteen() {
    says(26, "HAPPY then");
    ShadeTown x = full();
    x.wish(0, 0, 11, 6, 19, false, 1);
    due("as if there were a 17th", x.bestAwning(1, 0), 132);
    due("as if there were a 17th", x.bestAwning(1, 2), 13);
    refused("nothing is built", TownTest::full, town -> town.bestAwning(1, 0), 1);
  }

  // ---- promise 27

  /** A post at 0, 0 that casts on the next square to the east all day, and a house at 5, 5. */
  private static ShadeTown post() {
    ShadeTown x = under("u(1=1);e1(1=1)");
    x.caster(3, 0, 0, 12, 0);
    x.caster(0, 5, 5, 1, 0);
    return x;
  }

  private static void hatArguments() {
    says(27, "hat: NONE: no FREE SQUARE, no such what");
    Maker post = BoundsOfWishes::post;
    range("x of hat, gets", post, 0, 11, 0, 0, NONE, (x, v) -> x.hat(0, v, 0, 0));
    range("x of hat, loses", post, 0, 11, 0, 24, NONE, (x, v) -> x.hat(0, v, 0, 1));
    range("y of hat, gets", post, 0, 11, 0, 24, NONE, (x, v) -> x.hat(0, 0, v, 0));
    range("y of hat, loses", post, 0, 11, 0, 24, NONE, (x, v) -> x.hat(0, 0, v, 1));
    range("what of hat", post, 0, 1, 24, 24, NONE, (x, v) -> x.hat(0, 3, 3, v));
    refused("on a house", post, x -> x.hat(0, 5, 5, 0), NONE);
    refused("on a house", post, x -> x.hat(0, 5, 5, 1), NONE);
    taken("beside a house", post, x -> x.hat(0, 6, 5, 0), 24);
    taken("whose shade is on a house", post, x -> x.hat(0, 4, 5, 0), 0);
    taken("whose shade is on a house", post, x -> x.hat(0, 4, 5, 1), 24);
  }

  private static void hatOfPostsAlone() {
    says(27, "NONE: no standing post");
    Maker whole = TownTest::whole;
    for (int c : new int[] {0, 1, 3, 4, 5, 15, 16, -1, LEAST, MOST}) {
      refused("hat of " + c, whole, x -> x.hat(c, 0, 0, 0), NONE);
    }
    refused("a post that is gone", () -> {
      ShadeTown x = whole();
      x.down(2);
      return x;
    }, x -> x.hat(2, 0, 0, 0), NONE);
    refusedBeyond("c of hat", TownTest::full, 8, 11, NONE, (x, v) -> x.hat(v, 0, 11, 0));
    taken("where it is", whole, x -> x.hat(2, 4, 5, 0), 0);
    taken("where it is", whole, x -> x.hat(2, 4, 5, 1), 0);
    refused("it is asked for, not moved", BoundsOfWishes::post, x -> x.hat(0, 3, 3, 0), 24);
  }

  private static void hatGetsAndLoses() {
    says(27, "on how many SQUARES in HOURS somebody casts then where nobody did, and nobody where somebody did");
    ShadeTown x = under("u(t<10);e2(t<4);e1(1=1)");
    x.caster(3, 0, 0, 12, 0);
    // two squares in four hours, one in six: 14
    due("away: gets", x.hat(0, 0, 5, 0), 14);
    due("away: loses", x.hat(0, 0, 5, 1), 14);
    due("one on: gets", x.hat(0, 1, 0, 0), 4 + 6);
    due("one on: loses", x.hat(0, 1, 0, 1), 4 + 6);
    x.awning(1, 0, 1, 0, 0);
    due("one on: the awning stays", x.hat(0, 1, 0, 1), 0);
    due("one on: gets", x.hat(0, 1, 0, 0), 10);
    x.awning(1, 5, 1, 0, 0);
    due("away, to an awning: gets", x.hat(0, 0, 5, 0), 4);
    due("away, from an awning: loses", x.hat(0, 0, 5, 1), 4);
    due("to the edge: gets", x.hat(0, 10, 5, 0), 10);
    due("over the edge: gets", x.hat(0, 11, 5, 0), 0);
    due("over the edge: loses", x.hat(0, 11, 5, 1), 4);
    // on the first square and on the last one
    x = under("u(t=0);e0-1(1=1);n0(1=1)");
    x.caster(3, 1, 0, 12, 0);
    due("from 0: loses", x.hat(0, 5, 5, 1), 1);
    x.move(0, 5, 5);
    due("to 0: gets", x.hat(0, 1, 0, 0), 1);
    lawOf(x, "u(t=23);e1(1=1)");
    due("to 143: gets", x.hat(0, 10, 11, 0), 1);
    x.move(0, 10, 11);
    due("from 143: loses", x.hat(0, 5, 5, 1), 1);
  }

  // ---- promise 28

  private static void takenDownBySun() {
    says(28, "without which all WISHES for sun have no HOUR with the sun up in which somebody casts");
    ShadeTown x = under("u(t>5&t<19)");
    x.awning(3, 3, 1, 0, 0);
    due("no wish", x.takenDown(), 0);
    x.wish(0, 3, 3, 0, 24, false, 99);
    due("a wish for shade", x.takenDown(), 0);
    x.wish(1, 4, 3, 0, 24, true, 1);
    due("a wish beside it", x.takenDown(), 0);
    x.wish(1, 3, 3, 0, 24, true, 1);
    due("a wish for sun", x.takenDown(), 1);
    x.awning(3, 3, 2, 2, 0);
    due("both", x.takenDown(), 3);
    x.down(0);
    due("standing ones", x.takenDown(), 2);
    refused("nothing is done", TownTest::whole, town -> town.takenDown(), 8);
  }

  private static void takenDownByHours() {
    says(28, "no HOUR with the sun up in which somebody casts");
    ShadeTown x = under("u(t>5&t<19);e1(t=7|t=18)");
    x.caster(3, 2, 3, 12, 0);
    int[][] rows = {{0, 7, 0}, {0, 8, 1}, {7, 8, 1}, {8, 18, 0}, {8, 19, 1}, {18, 19, 1}, {19, 24, 0}, {0, 24, 1}};
    for (int[] row : rows) {
      x.wish(0, 3, 3, row[0], row[1], true, 1);
      due(row[0] + " to " + row[1], x.takenDown(), row[2]);
    }
    x.wish(0, 3, 3, 0, 24, true, 1);
    lawOf(x, "u(t>5&t<19);e1(t=5|t=19)");
    due("by night", x.takenDown(), 0);
    lawOf(x, "u(t>5&t<19);e1(t=6)");
    due("in the first hour", x.takenDown(), 1);
  }

  private static void takenDownHouses() {
    says(28, "houses that are gone leave FREE SQUARES");
    ShadeTown x = under("u(t=12);e1(1=1)");
    x.caster(0, 2, 2, 12, 0);
    x.caster(1, 2, 2, 1, 0);
    x.wish(0, 2, 2, 0, 24, true, 1);
    due("a house on the wish stays", x.takenDown(), 0);
    x.wish(1, 3, 2, 0, 24, true, 1);
    due("it must go, and the tree under it", x.takenDown(), 3);
    // a row of houses, each casting on the next: each that goes leaves the next wish to the sun
    x = under("u(t=12);e1(1=1)");
    for (int k = 0; k < 5; k++) {
      x.caster(0, 2 + k, 2, 12, 0);
      x.wish(k, 2 + k, 2, 0, 24, true, 1);
    }
    due("all stay", x.takenDown(), 0);
    x.wish(5, 7, 2, 0, 24, true, 1);
    due("all must go", x.takenDown(), 31);
    x.wish(2, 0, 0, 0, 24, true, 1);
    due("to the gap", x.takenDown(), 16 + 8 + 4);
  }

  private static void takenDownSixteen() {
    says(28, "TAKEN DOWN, as bits");
    ShadeTown x = under("u(1=1)");
    x.wish(0, 5, 5, 23, 24, true, 1);
    for (int c = 0; c < 16; c++) {
      x.awning(5, 5, 1, 0, 0);
      due("of " + c, x.takenDown(), (1 << c + 1) - 1);
    }
    x.down(0);
    x.down(15);
    due("standing ones", x.takenDown(), 32766);
    x = under("u(1=1)");
    for (int k = 0; k < 16; k++) {
      x.caster(1, k % 12, k / 12, 1, 0);
    }
    for (int k = 15; k >= 0; k--) {
      x.wish(k, k % 12, k / 12, 0, 24, true, 1);
      due("from " + k + " on", x.takenDown(), 65536 - (1 << k));
    }
  }

  private static void takenDownOneByOne() {
    says(28, "houses that are gone leave FREE SQUARES, sixteen behind one another");
    // twelve houses along row 0, four up the column 11; each casts on the next one's square, the last one on 11, 5
    for (int gap = -1; gap < 16; gap++) {
      ShadeTown x = under("u(t=12|t=13);e1(t=12);n1(t=13)");
      for (int c = 0; c < 16; c++) {
        x.caster(0, Math.min(c, 11), Math.max(0, c - 11), 12, 0);
        boolean wished = c > 0 && c != gap;
        if (wished) x.wish(c - 1, Math.min(c, 11), Math.max(0, c - 11), 0, 24, true, 1);
      }
      due("all stay", x.takenDown(), 0);
      x.wish(15, 11, 5, 0, 24, true, 1);
      // without the wish at the gap nobody behind it must go
      due("without the wish on " + gap, x.takenDown(), gap <= 0 ? 65535 : 65535 & -1 << gap);
    }
  }

  // ---- promise 29

  /** The sun at noon alone, some squares in shade, some buyers. */
  private static ShadeTown noonTown(int squares, int buyers) {
    ShadeTown x = under("u(t=12)");
    for (int k = 0; k < squares; k++) {
      x.awning(k, 0, 1, 0, 0);
    }
    for (int i = 0; i < buyers; i++) {
      x.buyer(i, 0, 0);
    }
    return x;
  }

  private static void noonArguments() {
    says(29, "n DAYS (1 to 60); how many a BUYER had; NONE: no such ones");
    range("n of noon", () -> noonTown(1, 1), 1, 60, 1, 60, NONE, (x, v) -> x.noon(v, 0));
    range("i of noon", () -> noonTown(8, 8), 0, 7, 60, 60, NONE, (x, v) -> x.noon(60, v));
    for (int i = 3; i < 8; i++) {
      int buyer = i;
      refused("not told " + i, () -> noonTown(3, 3), x -> x.noon(1, buyer), NONE);
    }
    taken("told", () -> noonTown(3, 3), x -> x.noon(1, 2), 1);
    refused("it is asked for, not given", () -> noonTown(3, 3), x -> x.noon(60, 0), 60);
  }

  private static void noonPlaces() {
    says(29, "as many places as FREE SQUARES on which somebody casts in HOUR 12");
    ShadeTown x = noonTown(2, 3);
    due("two places", x.noon(1, 1), 1);
    due("two places", x.noon(1, 2), 0);
    x.caster(0, 0, 0, 1, 0);
    due("one is not FREE", x.noon(1, 0), 1);
    due("one is not FREE", x.noon(1, 1), 0);
    x.caster(0, 1, 0, 1, 0);
    due("none", x.noon(60, 0), 0);
    x.down(2);
    lawOf(x, "u(t=11|t=13)");
    due("at 11 and 13", x.noon(60, 0), 0);
    lawOf(x, "u(1=1);e1(!t=12)");
    x.caster(3, 5, 5, 99, 0);
    due("in hour 12 alone", x.noon(1, 0), 1);
    due("in hour 12 alone", x.noon(1, 1), 0);
    x.awning(0, 0, 1, 0, 0);
    due("two on one square are one place", x.noon(1, 1), 0);
  }

  private static void noonEightAtMost() {
    says(29, "(8 at most)");
    for (int squares = 6; squares <= 12; squares++) {
      ShadeTown x = noonTown(squares, 8);
      for (int i = 0; i < 8; i++) {
        due(squares + " squares, buyer " + i, x.noon(1, i), i < squares ? 1 : 0);
      }
      due("sixty days", x.noon(60, 7), squares >= 8 ? 60 : squares == 7 ? 52 : 45);
    }
  }

  private static void noonByTurns() {
    says(29, "BUYERS who had fewest get one each, of like ones the lowest");
    ShadeTown x = noonTown(1, 8);
    for (int n = 1; n <= 60; n++) {
      due("buyer 0 in " + n, x.noon(n, 0), (n + 7) / 8);
      due("buyer 7 in " + n, x.noon(n, 7), n / 8);
    }
    x = noonTown(3, 4);
    int[][] had = {{1, 1, 1, 0}, {2, 2, 1, 1}, {3, 2, 2, 2}, {3, 3, 3, 3}, {4, 4, 4, 3}};
    for (int n = 1; n <= 5; n++) {
      for (int i = 0; i < 4; i++) {
        due("buyer " + i + " in " + n, x.noon(n, i), had[n - 1][i]);
      }
    }
    x = noonTown(5, 2);
    due("one each a day", x.noon(7, 0), 7);
    due("one each a day", x.noon(7, 1), 7);
    x = noonTown(1, 0);
    x.buyer(7, 0, 0);
    x.buyer(3, 0, 0);
    due("the lowest of those told", x.noon(1, 3), 1);
    due("the lowest of those told", x.noon(1, 7), 0);
    due("then the other", x.noon(2, 7), 1);
  }
}
