import java.util.Arrays;

/** Shade by the hour in a town of the south; ../shared/DOC.md says what each call answers. */
public final class ShadeTown {
    public static final int NONE = -1;

    private static final int THERE_IS_NONE = -2;
    private static final int HOUSE_IS_THERE = -2;
    private static final int ONE_IS_NOT_TOLD = -2;
    private static final int NO_CHECK = -2;
    private static final int NO_SUCH_ONES = -3;
    private static final int NO_SUN = -100;
    private static final int NO_STOREY = -100000;
    private static final int NOBODY = 144;

    private static final int SIDE = 12;
    private static final int SQUARES = 144;
    private static final int HOURS = 24;
    private static final int OWNERS = 6;
    private static final int TALLEST = 99;
    private static final int FED_AT_ONCE = 20;
    private static final int LONGEST_LAW = 240;
    private static final int MOVES_OF_STRIP = 30;
    private static final int FIRST_PAYS = 10;

    private final Tape tape = new Tape();
    private final Law law = new Law();
    private final Law lawBeingRead = new Law();
    private final LawReader reader = new LawReader(tape, lawBeingRead);
    private final Town town = new Town();
    private final Town townKept = new Town();
    private boolean somethingKept = false;
    private final Day day = new Day(town, law);
    private final Strips strips = new Strips();
    private final Walks walks = new Walks();
    private final Market market = new Market();
    private final Wishes wishes = new Wishes();
    private final Clouds clouds = new Clouds();

    public ShadeTown() {
    }

    public int feed(int a, int b, int c, int d, int e) {
        if (!tape.hasRoomFor(FED_AT_ONCE)) {
            return NONE;
        }
        tape.addInt(a);
        tape.addInt(b);
        tape.addInt(c);
        tape.addInt(d);
        tape.addInt(e);
        return tape.length();
    }

    public int law(int n) {
        if (n < 1 || n > LONGEST_LAW || n > tape.length()) {
            return NONE;
        }
        int answer = reader.readLaw(n);
        tape.empty();
        if (answer >= 0) {
            law.copyFrom(lawBeingRead);
            day.forgetSky();
        }
        return answer;
    }

    public int caster(int kind, int x, int y, int height, int owner) {
        boolean upright = kind == Town.HOUSE || kind == Town.TREE || kind == Town.POST;
        if (!upright || !inTown(x, y) || height < 1 || height > TALLEST || !isOwner(owner) || town.isFull()) {
            return NONE;
        }
        int square = SIDE * y + x;
        if (kind == Town.HOUSE && town.houseOn(square) != NONE) {
            return HOUSE_IS_THERE;
        }
        day.forgetShade();
        return town.add(kind, square, height, 0, owner);
    }

    public int awning(int x, int y, int length, int direction, int owner) {
        if (!inTown(x, y) || !isLength(length) || !isOwner(owner) || town.isFull()) {
            return NONE;
        }
        if (direction < 0 || direction > 3) {
            return NONE;
        }
        day.forgetShade();
        return town.add(Town.AWNING, SIDE * y + x, length, direction, owner);
    }

    public boolean down(int c) {
        if (!town.isStanding(c)) {
            return false;
        }
        town.takeDown(c);
        day.forgetShade();
        return true;
    }

    public boolean move(int c, int x, int y) {
        if (!town.isStandingOf(c, Town.POST) || !isFree(x, y)) {
            return false;
        }
        town.place[c] = SIDE * y + x;
        day.forgetShade();
        return true;
    }

    public boolean season(int m) {
        if (m < 0 || m > 3) {
            return false;
        }
        town.season = m;
        day.forgetSky();
        return true;
    }

    public int casterIs(int c, int what) {
        if (!town.isCaster(c)) {
            return NONE;
        }
        switch (what) {
            case 0:
                return town.kind[c];
            case 1:
                return town.place[c];
            case 2:
                return town.size[c];
            case 3:
                return town.direction[c];
            case 4:
                return town.owner[c];
            case 5:
                return town.isStanding(c) ? 1 : 0;
            default:
                return NONE;
        }
    }

    public int sun(int hour, int what) {
        if (!isHour(hour)) {
            return NO_SUN;
        }
        Day today = today();
        switch (what) {
            case 0:
                return today.isUp(hour) ? 1 : 0;
            case 1:
                return today.eastAt(hour);
            case 2:
                return today.northAt(hour);
            case 3:
                return today.cloudAt(hour);
            default:
                return NO_SUN;
        }
    }

    public int shade(int x, int y, int hour) {
        if (!inTown(x, y) || !isHour(hour)) {
            return NONE;
        }
        return today().whoCasts(hour, SIDE * y + x);
    }

    public int price(int x, int y, int hour) {
        if (!inTown(x, y) || !isHour(hour)) {
            return NONE;
        }
        return today().priceOf(hour, SIDE * y + x);
    }

    public int cast(int c, int hour) {
        if (!town.isCaster(c) || hour < 0 || hour > HOURS) {
            return NONE;
        }
        Day today = today();
        if (hour < HOURS) {
            return today.squaresOf(c, hour);
        }
        int together = 0;
        for (int h = 0; h < HOURS; h++) {
            together += today.squaresOf(c, h);
        }
        return together;
    }

    public long led(int owner, int what) {
        if (!isOwner(owner) || what < 0 || what > 1) {
            return NONE;
        }
        long above = today().partsOf(town.standingOf(owner));
        return lowest(above, Day.WHOLE, what);
    }

    public int longest(int x, int y, int what) {
        if (!inTown(x, y) || what < 0 || what > 1) {
            return NONE;
        }
        int row = today().longestRow(SIDE * y + x);
        if (what == 0) {
            return row / HOURS;
        }
        return row == 0 ? THERE_IS_NONE : row % HOURS;
    }

    public int donkey(int what) {
        if (what < 0 || what > 1) {
            return NONE;
        }
        Day today = today();
        int bestSquare = THERE_IS_NONE;
        int bestHours = THERE_IS_NONE;
        for (int square = SIDE; square < SQUARES; square++) {
            if (today.isFree(square) && town.houseOn(square - SIDE) != NONE) {
                int hours = today.longestRow(square) / HOURS;
                if (hours > bestHours) {
                    bestHours = hours;
                    bestSquare = square;
                }
            }
        }
        return what == 0 ? bestSquare : bestHours;
    }

    public int strip(int from, int to, int what) {
        boolean asked = what == NONE || what == MOVES_OF_STRIP || (what >= from && what < to);
        if (!areHours(from, to, Strips.MOST_HOURS) || !asked) {
            return NO_SUCH_ONES;
        }
        if (!strips.find(today(), from, to)) {
            return THERE_IS_NONE;
        }
        if (what == NONE) {
            return strips.prices();
        }
        return what == MOVES_OF_STRIP ? strips.moves() : strips.squareIn(what);
    }

    public int walk(int from, int to, int hour, int what) {
        Day today = today();
        if (!isHour(hour) || what < 0 || what > 2 || !today.isFree(from) || !today.isFree(to)) {
            return NONE;
        }
        if (what == 0) {
            return walks.soonestInShade(today, from, to, hour);
        }
        int least = walks.leastSun(today, from, to, hour);
        if (least < 0) {
            return THERE_IS_NONE;
        }
        return what == 1 ? walks.sunOf(least) : walks.partsOf(least);
    }

    public boolean buyer(int i, int x, int y) {
        if (!market.isNumber(i) || !inTown(x, y)) {
            return false;
        }
        market.tell(i, SIDE * y + x);
        return true;
    }

    public int worth(int i, int x, int y, int hour) {
        if (!market.isTold(i) || !inTown(x, y) || !isHour(hour)) {
            return NONE;
        }
        return market.worthOf(today(), i, SIDE * y + x, hour);
    }

    public int sale(int hour, int buyers, int what) {
        int asked = what >= FIRST_PAYS ? what - FIRST_PAYS : what;
        boolean ofOne = market.isNumber(asked) && (buyers >> asked & 1) == 1;
        if (!isHour(hour) || buyers < 1 || buyers > Market.ALL || (what != NONE && !ofOne)) {
            return NO_SUCH_ONES;
        }
        if (!market.areTold(buyers)) {
            return ONE_IS_NOT_TOLD;
        }
        market.sell(today(), hour, buyers);
        if (what == NONE) {
            return market.together();
        }
        return what >= FIRST_PAYS ? market.pays(asked) : market.squareOf(asked);
    }

    public boolean wish(int k, int x, int y, int from, int to, boolean sun, int weight) {
        if (!wishes.isNumber(k) || !inTown(x, y) || !areHours(from, to, HOURS) || weight < 1 || weight > 99) {
            return false;
        }
        wishes.tell(k, SIDE * y + x, from, to, sun, weight);
        return true;
    }

    public int kept(int k) {
        return wishes.isTold(k) ? wishes.hoursKept(today(), k) : NONE;
    }

    public int happy() {
        Day today = today();
        return wishes.happiness(today, true) + wishes.happiness(today, false);
    }

    public int storey(int c, int what) {
        if (!town.isStandingOf(c, Town.HOUSE) || what < 0 || what > 1) {
            return NO_STOREY;
        }
        town.trial(c, town.place[c], Math.min(TALLEST, town.size[c] + 12));
        Day today = today();
        boolean forSun = what == 1;
        int more = wishes.happinessOnTrial(today, c, forSun) - wishes.happiness(today, forSun);
        return forSun ? -more : more;
    }

    public int bestAwning(int length, int what) {
        if (!isLength(length) || what < 0 || what > 2) {
            return NONE;
        }
        Day today = today();
        int best = wishes.bestAwningOf(today, length);
        if (best < 0) {
            return THERE_IS_NONE;
        }
        if (what == 2) {
            int before = wishes.happiness(today, true) + wishes.happiness(today, false);
            return before + wishes.gainOfAwning(best / 4, best % 4, length);
        }
        return what == 0 ? best / 4 : best % 4;
    }

    public int hat(int c, int x, int y, int what) {
        if (!town.isStandingOf(c, Town.POST) || !isFree(x, y) || what < 0 || what > 1) {
            return NONE;
        }
        town.trial(c, SIDE * y + x, town.size[c]);
        Day today = today();
        int changed = 0;
        for (int hour = 0; hour < HOURS; hour++) {
            changed += today.changedByTrial(c, hour, what == 0);
        }
        return changed;
    }

    public int takenDown() {
        return wishes.inTheWayOfSun(today(), town);
    }

    public int noon(int n, int i) {
        if (n < 1 || n > 60 || !market.isTold(i)) {
            return NONE;
        }
        return market.noonsOf(i, n, today().shadedSquares(12));
    }

    public int years(int n) {
        if (n < 1 || n > 60) {
            return NONE;
        }
        int grown = 0;
        for (int year = 0; year < n; year++) {
            grown += growTrees();
        }
        day.forgetShade();
        return grown;
    }

    public int days(int n) {
        if (n < 1 || n > 30) {
            return NONE;
        }
        return clouds.drawDays(today(), town, n);
    }

    public int purse(int owner) {
        return isOwner(owner) ? town.purse[owner] : NONE;
    }

    public long odds(int from, int to, int what) {
        if (!areHours(from, to, 18) || what < 0 || what > 1) {
            return NONE;
        }
        Day today = today();
        long above = 1;
        long below = 1;
        for (int hour = from; hour < to; hour++) {
            if (today.isUp(hour)) {
                above *= 10 - today.cloudAt(hour);
                below *= 10;
            }
        }
        return lowest(above, below, what);
    }

    public boolean seed(int x) {
        if (x < 0 || x > 65535) {
            return false;
        }
        town.drawn = x;
        return true;
    }

    public int keep() {
        townKept.copyFrom(town);
        somethingKept = true;
        return Integer.bitCount(town.standing);
    }

    public boolean undo() {
        if (!somethingKept) {
            return false;
        }
        town.copyFrom(townKept);
        day.forgetSky();
        return true;
    }

    public int check(int hour, int y, int n) {
        if (!isHour(hour) || !inTown(0, y) || n < 0 || n > SIDE || n * 4 > tape.length()) {
            return NO_CHECK;
        }
        Day today = today();
        int answer = NONE;
        for (int x = 0; x < n && answer == NONE; x++) {
            if (tape.intAt(x) != Integer.bitCount(today.whoCasts(hour, SIDE * y + x))) {
                answer = x;
            }
        }
        tape.empty();
        return answer;
    }

    public int count(int what) {
        switch (what) {
            case 0:
                return town.number;
            case 1:
                return town.standing;
            case 2:
                return law.clauses();
            case 3:
                return tape.length();
            case 4:
                return town.season;
            case 5:
                return town.drawn;
            case 6:
                return market.howManyTold();
            case 7:
                return wishes.toldBits();
            case 8:
                return today().howManyFree();
            default:
                return NONE;
        }
    }

    private int growTrees() {
        int grown = 0;
        for (int c = 0; c < town.number; c++) {
            if (town.isStandingOf(c, Town.TREE)) {
                law.askTree(town.season, town.size[c], town.owner[c]);
                int higher = Math.min(TALLEST, town.size[c] + law.valueOf('g', 0, 9));
                grown += higher - town.size[c];
                town.size[c] = higher;
            }
        }
        return grown;
    }

    /** The day as it is now: all that asks for sun or shade gets it from here, so nothing sees an old one. */
    private Day today() {
        day.know();
        return day;
    }

    private boolean isFree(int x, int y) {
        return inTown(x, y) && today().isFree(SIDE * y + x);
    }

    private static boolean inTown(int x, int y) {
        return x >= 0 && x < SIDE && y >= 0 && y < SIDE;
    }

    private static boolean isHour(int hour) {
        return hour >= 0 && hour < HOURS;
    }

    private static boolean areHours(int from, int to, int most) {
        return from >= 0 && from < to && to <= HOURS && to - from <= most;
    }

    private static boolean isOwner(int owner) {
        return owner >= 0 && owner < OWNERS;
    }

    private static boolean isLength(int length) {
        return length >= 1 && length <= 3;
    }

    private static int eastOf(int direction) {
        return direction == 1 ? 1 : direction == 3 ? -1 : 0;
    }

    private static int northOf(int direction) {
        return direction == 0 ? 1 : direction == 2 ? -1 : 0;
    }

    /** The square at a side (0 to 3 as an awning's direction), or NONE beyond the town. */
    private static int beside(int square, int side) {
        int x = square % SIDE + eastOf(side);
        int y = square / SIDE + northOf(side);
        return inTown(x, y) ? SIDE * y + x : NONE;
    }

    private static long lowest(long above, long below, int what) {
        long divisor = commonDivisor(above, below);
        if (divisor == 0) {
            return NONE;
        }
        return what == 0 ? above / divisor : below / divisor;
    }

    private static long commonDivisor(long a, long b) {
        long greater = a;
        long less = b;
        // Euclid's steps on longs stay below 100
        for (int step = 0; step < 200 && less != 0; step++) {
            long rest = greater % less;
            greater = less;
            less = rest;
        }
        return greater;
    }

    /** The bytes that have been fed and not yet used. */
    private static final class Tape {
        private static final int ROOM = 260;

        private final int[] bytes = new int[ROOM];
        private int used = 0;

        boolean hasRoomFor(int more) {
            return used + more <= ROOM;
        }

        void addInt(int value) {
            for (int shift = 24; shift >= 0; shift -= 8) {
                if (used < ROOM) {
                    bytes[used] = value >> shift & 255;
                    used++;
                }
            }
        }

        int length() {
            return used;
        }

        int byteAt(int place) {
            return place >= 0 && place < used ? bytes[place] : NONE;
        }

        int intAt(int number) {
            int value = 0;
            for (int k = 0; k < 4; k++) {
                value = value << 8 | byteAt(4 * number + k) & 255;
            }
            return value;
        }

        void empty() {
            used = 0;
        }
    }

    /**
     * THE LAW as code for a machine with a stack: its jumps go forward alone, so a run over it always ends.
     */
    private static final class Law {
        static final int MOST_CLAUSES = 16;
        static final String LETTERS = "tmxysidho";

        static final int END = 0;
        static final int NUMBER = 1;
        static final int LETTER = 2;
        static final int AND = 3;
        static final int OR = 4;
        static final int NOT = 5;

        // two cells a byte of the text at most, two ends a clause, and one to look at behind the last
        private static final int CELLS = 2 * LONGEST_LAW + 2 * MOST_CLAUSES + 1;
        // six deep, with no more than three that wait on each level
        private static final int STACK = 32;

        private final int[] code = new int[CELLS];
        private int used = 0;
        private final int[] letterOf = new int[MOST_CLAUSES];
        private final int[] valueStart = new int[MOST_CLAUSES];
        private final int[] holdsStart = new int[MOST_CLAUSES];
        private int number = 0;
        private final int[] told = new int[9];
        private final int[] stack = new int[STACK];

        int clauses() {
            return number;
        }

        void copyFrom(Law other) {
            System.arraycopy(other.code, 0, code, 0, CELLS);
            System.arraycopy(other.letterOf, 0, letterOf, 0, MOST_CLAUSES);
            System.arraycopy(other.valueStart, 0, valueStart, 0, MOST_CLAUSES);
            System.arraycopy(other.holdsStart, 0, holdsStart, 0, MOST_CLAUSES);
            used = other.used;
            number = other.number;
        }

        void clear() {
            used = 0;
            number = 0;
        }

        void beginClause(int letter) {
            if (number < MOST_CLAUSES) {
                letterOf[number] = letter;
                valueStart[number] = used;
                holdsStart[number] = used;
            }
        }

        void beginCondition() {
            if (number < MOST_CLAUSES) {
                holdsStart[number] = used;
            }
        }

        void endClause() {
            number++;
        }

        void put(int cell) {
            if (used < CELLS) {
                code[used] = cell;
                used++;
            }
        }

        /** A jump whose aim is not known yet holds the jump ahead of it that waits for the same aim. */
        int putJump(int kind, int waiting) {
            put(kind);
            put(waiting);
            return used - 1;
        }

        void aimHere(int waiting) {
            int cell = waiting;
            for (int k = 0; k < CELLS && cell >= 0 && cell < CELLS; k++) {
                int next = code[cell];
                code[cell] = used;
                cell = next;
            }
        }

        void askHour(int hour, int season) {
            Arrays.fill(told, 0);
            told[0] = hour;
            told[1] = season;
        }

        void askSquare(int square, int howManyCast) {
            told[2] = square % SIDE;
            told[3] = square / SIDE;
            told[4] = howManyCast;
        }

        void askBuyer(int buyer, int way) {
            told[5] = buyer;
            told[6] = way;
        }

        void askTree(int season, int height, int owner) {
            askHour(0, season);
            told[7] = height;
            told[8] = owner;
        }

        boolean anyHolds(char letter) {
            for (int k = 0; k < number; k++) {
                if (letterOf[k] == letter && run(holdsStart[k]) != 0) {
                    return true;
                }
            }
            return false;
        }

        int valueOf(char letter, int least, int most) {
            for (int k = 0; k < number; k++) {
                if (letterOf[k] == letter && run(holdsStart[k]) != 0) {
                    return Math.max(least, Math.min(most, run(valueStart[k])));
                }
            }
            return 0;
        }

        /**
         * What comes out; 0 if it is refused, by which a condition does not hold, too. The reader takes no text
         * that goes beyond the stack or below it.
         */
        private int run(int start) {
            int top = 0;
            int at = start;
            for (int step = 0; step < CELLS && at >= 0 && at + 1 < CELLS && top < STACK; step++) {
                int op = code[at];
                int with = code[at + 1];
                if (op == NUMBER || (op == LETTER && with >= 0 && with < told.length)) {
                    stack[top] = op == NUMBER ? with : told[with];
                    top++;
                    at += 2;
                } else if (top == 0 || op == END) {
                    return top == 0 ? 0 : stack[top - 1];
                } else if (op == AND || op == OR) {
                    boolean settled = (stack[top - 1] == 0) == (op == AND);
                    top -= settled ? 0 : 1;
                    at = settled ? with : at + 2;
                } else if (op == NOT) {
                    stack[top - 1] = 1 - stack[top - 1];
                    at++;
                } else if (top < 2 || (stack[top - 1] == 0 && (op == '/' || op == '%'))) {
                    return 0;
                } else {
                    top--;
                    stack[top - 1] = reckon(op, stack[top - 1], stack[top]);
                    at++;
                }
            }
            return 0;
        }

        private static int reckon(int op, int left, int right) {
            switch (op) {
                case '+':
                    return left + right;
                case '-':
                    return left - right;
                case '*':
                    return left * right;
                case '/':
                    return right == 0 ? 0 : left / right;
                case '%':
                    return right == 0 ? 0 : left % right;
                case '<':
                    return left < right ? 1 : 0;
                case '>':
                    return left > right ? 1 : 0;
                default:
                    return left == right ? 1 : 0;
            }
        }
    }

    /** Reads a text from the tape into a law, or finds its first fault from the left. */
    private static final class LawReader {
        private static final String CLAUSE_LETTERS = "uencpwg";
        private static final int DEEPEST = 6;
        private static final int MOST_DIGITS = 5;
        private static final int CANNOT_STAND = 1;
        private static final int SIXTH_DIGIT = 2;
        private static final int TOO_MANY_CLAUSES = 4;
        private static final int TOO_DEEP = 5;

        private final Tape tape;
        private final Law law;
        private final int[] text = new int[LONGEST_LAW];
        private int length = 0;
        private int place = 0;
        private int fault = 0;

        LawReader(Tape tape, Law law) {
            this.tape = tape;
            this.law = law;
        }

        /** How many clauses, or the fault as a number below 0. */
        int readLaw(int bytes) {
            length = Math.min(bytes, LONGEST_LAW);
            for (int k = 0; k < length; k++) {
                text[k] = tape.byteAt(k);
            }
            place = 0;
            fault = 0;
            law.clear();
            return readClauses() ? law.clauses() : fault;
        }

        private int sign() {
            return place >= 0 && place < length ? text[place] : NONE;
        }

        private boolean isOneOf(String signs) {
            int sign = sign();
            return sign >= 0 && signs.indexOf((char) sign) >= 0;
        }

        private boolean fail(int number) {
            fault = -1000 * number - place;
            return false;
        }

        private boolean step(char wanted) {
            if (sign() != wanted) {
                return fail(CANNOT_STAND);
            }
            place++;
            return true;
        }

        private boolean stepDeeper(int depth) {
            if (depth >= DEEPEST) {
                return fail(TOO_DEEP);
            }
            place++;
            return true;
        }

        private boolean readClauses() {
            for (int k = 0; k <= LONGEST_LAW; k++) {
                if (!readClause()) {
                    return false;
                }
                if (place == length) {
                    return true;
                }
                if (!step(';')) {
                    return false;
                }
            }
            return fail(CANNOT_STAND);
        }

        private boolean readClause() {
            if (!isOneOf(CLAUSE_LETTERS)) {
                return fail(CANNOT_STAND);
            }
            if (law.clauses() >= Law.MOST_CLAUSES) {
                return fail(TOO_MANY_CLAUSES);
            }
            int letter = sign();
            place++;
            law.beginClause(letter);
            if (letter != 'u') {
                if (!readSum(0)) {
                    return false;
                }
                law.put(Law.END);
            }
            law.beginCondition();
            if (!step('(') || !readParts(1) || !step(')')) {
                return false;
            }
            law.put(Law.END);
            law.endClause();
            return true;
        }

        private boolean readParts(int depth) {
            int waiting = NONE;
            for (int k = 0; k <= LONGEST_LAW; k++) {
                if (!readPieces(depth)) {
                    return false;
                }
                if (sign() != '|') {
                    law.aimHere(waiting);
                    return true;
                }
                place++;
                waiting = law.putJump(Law.OR, waiting);
            }
            return fail(CANNOT_STAND);
        }

        private boolean readPieces(int depth) {
            int waiting = NONE;
            for (int k = 0; k <= LONGEST_LAW; k++) {
                if (!readPiece(depth)) {
                    return false;
                }
                if (sign() != '&') {
                    law.aimHere(waiting);
                    return true;
                }
                place++;
                waiting = law.putJump(Law.AND, waiting);
            }
            return fail(CANNOT_STAND);
        }

        private boolean readPiece(int depth) {
            if (sign() == '!') {
                if (!stepDeeper(depth) || !readPiece(depth + 1)) {
                    return false;
                }
                law.put(Law.NOT);
                return true;
            }
            if (sign() == '(') {
                return stepDeeper(depth) && readParts(depth + 1) && step(')');
            }
            if (!readSum(depth)) {
                return false;
            }
            if (!isOneOf("<>=")) {
                return fail(CANNOT_STAND);
            }
            int op = sign();
            place++;
            if (!readSum(depth)) {
                return false;
            }
            law.put(op);
            return true;
        }

        private boolean readSum(int depth) {
            if (!readTerm(depth)) {
                return false;
            }
            for (int k = 0; k <= LONGEST_LAW && isOneOf("+-"); k++) {
                int op = sign();
                place++;
                if (!readTerm(depth)) {
                    return false;
                }
                law.put(op);
            }
            return true;
        }

        private boolean readTerm(int depth) {
            if (!readFactor(depth)) {
                return false;
            }
            for (int k = 0; k <= LONGEST_LAW && isOneOf("*/%"); k++) {
                int op = sign();
                place++;
                if (!readFactor(depth)) {
                    return false;
                }
                law.put(op);
            }
            return true;
        }

        private boolean readFactor(int depth) {
            if (sign() == '[') {
                return stepDeeper(depth) && readSum(depth + 1) && step(']');
            }
            if (isDigit()) {
                return readNumber();
            }
            if (!isOneOf(Law.LETTERS)) {
                return fail(CANNOT_STAND);
            }
            law.put(Law.LETTER);
            law.put(Law.LETTERS.indexOf((char) sign()));
            place++;
            return true;
        }

        private boolean isDigit() {
            return sign() >= '0' && sign() <= '9';
        }

        private boolean readNumber() {
            int value = 0;
            for (int k = 0; k < MOST_DIGITS && isDigit(); k++) {
                value = 10 * value + sign() - '0';
                place++;
            }
            if (isDigit()) {
                return fail(SIXTH_DIGIT);
            }
            law.put(Law.NUMBER);
            law.put(value);
            return true;
        }
    }

    /** All that is kept and undone: casters, purses, season, X. */
    private static final class Town {
        static final int HOUSE = 0;
        static final int TREE = 1;
        static final int AWNING = 2;
        static final int POST = 3;
        static final int MOST = 16;
        // one place more, for a caster that is only thought of
        static final int TRIAL = MOST;

        final int[] kind = new int[MOST + 1];
        final int[] place = new int[MOST + 1];
        final int[] size = new int[MOST + 1];
        final int[] direction = new int[MOST + 1];
        final int[] owner = new int[MOST + 1];
        final int[] purse = new int[OWNERS];
        int number = 0;
        int standing = 0;
        int season = 0;
        int drawn = 1;

        void copyFrom(Town other) {
            System.arraycopy(other.kind, 0, kind, 0, MOST);
            System.arraycopy(other.place, 0, place, 0, MOST);
            System.arraycopy(other.size, 0, size, 0, MOST);
            System.arraycopy(other.direction, 0, direction, 0, MOST);
            System.arraycopy(other.owner, 0, owner, 0, MOST);
            System.arraycopy(other.purse, 0, purse, 0, OWNERS);
            number = other.number;
            standing = other.standing;
            season = other.season;
            drawn = other.drawn;
        }

        boolean isFull() {
            return number >= MOST;
        }

        boolean isCaster(int c) {
            return c >= 0 && c < number;
        }

        boolean isStanding(int c) {
            return isCaster(c) && (standing >> c & 1) == 1;
        }

        boolean isStandingOf(int c, int wanted) {
            return isStanding(c) && kind[c] == wanted;
        }

        int houseOn(int square) {
            for (int c = 0; c < number; c++) {
                if (place[c] == square && isStandingOf(c, HOUSE)) {
                    return c;
                }
            }
            return NONE;
        }

        int standingOf(int wanted) {
            int bits = 0;
            for (int c = 0; c < number; c++) {
                if (owner[c] == wanted && isStanding(c)) {
                    bits |= 1 << c;
                }
            }
            return bits;
        }

        int add(int newKind, int square, int newSize, int newDirection, int newOwner) {
            int c = number;
            if (c >= MOST) {
                return NONE;
            }
            kind[c] = newKind;
            place[c] = square;
            size[c] = newSize;
            direction[c] = newDirection;
            owner[c] = newOwner;
            standing |= 1 << c;
            number++;
            return c;
        }

        void takeDown(int c) {
            if (isCaster(c)) {
                standing &= ~(1 << c);
            }
        }

        /** What caster c would be at another square or of another size, beside the town as it is. */
        void trial(int c, int square, int newSize) {
            if (isCaster(c)) {
                kind[TRIAL] = kind[c];
                direction[TRIAL] = direction[c];
                place[TRIAL] = square;
                size[TRIAL] = newSize;
            }
        }
    }

    /** The sun and who casts where in each hour, reckoned once till something changes. */
    private static final class Day {
        // what 1 to 16 all divide, so that parts stay whole numbers
        static final long WHOLE = 720720;
        private static final int FARTHEST = 15;

        private final Town town;
        private final Law law;
        private final boolean[] up = new boolean[HOURS];
        private final int[] east = new int[HOURS];
        private final int[] north = new int[HOURS];
        private final int[] cloud = new int[HOURS];
        private boolean skyKnown = false;
        // bits of casters, also on squares with a house
        private final int[] reached = new int[HOURS * SQUARES];
        private final boolean[] built = new boolean[SQUARES];
        private boolean shadeKnown = false;
        private final int[] trialReached = new int[SQUARES];

        Day(Town town, Law law) {
            this.town = town;
            this.law = law;
        }

        void forgetSky() {
            skyKnown = false;
            shadeKnown = false;
        }

        void forgetShade() {
            shadeKnown = false;
        }

        void know() {
            if (!skyKnown) {
                knowSky();
            }
            if (!shadeKnown) {
                knowShade();
            }
        }

        boolean isUp(int hour) {
            return isHour(hour) && up[hour];
        }

        int eastAt(int hour) {
            return isHour(hour) ? east[hour] : 0;
        }

        int northAt(int hour) {
            return isHour(hour) ? north[hour] : 0;
        }

        int cloudAt(int hour) {
            return isHour(hour) ? cloud[hour] : 0;
        }

        boolean isFree(int square) {
            return square >= 0 && square < SQUARES && !built[square];
        }

        int howManyFree() {
            int free = 0;
            for (int square = 0; square < SQUARES; square++) {
                free += isFree(square) ? 1 : 0;
            }
            return free;
        }

        int whoCasts(int hour, int square) {
            return isFree(square) && isHour(hour) ? reached[hour * SQUARES + square] : 0;
        }

        /** Who would cast on a square if no house stood on it. */
        int whoReaches(int hour, int square) {
            return isHour(hour) && square >= 0 && square < SQUARES ? reached[hour * SQUARES + square] : 0;
        }

        int shadedSquares(int hour) {
            int shaded = 0;
            for (int square = 0; square < SQUARES; square++) {
                shaded += whoCasts(hour, square) != 0 ? 1 : 0;
            }
            return shaded;
        }

        int squaresOf(int c, int hour) {
            int squares = 0;
            for (int square = 0; square < SQUARES; square++) {
                squares += whoCasts(hour, square) >> c & 1;
            }
            return squares;
        }

        long partsOf(int casters) {
            long parts = 0;
            for (int hour = 0; hour < HOURS; hour++) {
                for (int square = 0; square < SQUARES; square++) {
                    int who = whoCasts(hour, square);
                    if ((who & casters) != 0) {
                        parts += WHOLE / Integer.bitCount(who) * Integer.bitCount(who & casters);
                    }
                }
            }
            return parts;
        }

        /** The longest row of hours: 24 times how many, and its first hour; 0 if there is none. */
        int longestRow(int square) {
            int best = 0;
            int hours = 0;
            for (int hour = 0; hour < HOURS; hour++) {
                hours = whoCasts(hour, square) != 0 ? hours + 1 : 0;
                if (hours > best / HOURS) {
                    best = HOURS * hours + hour - hours + 1;
                }
            }
            return best;
        }

        void askSquare(int hour, int square) {
            int howMany = Integer.bitCount(whoCasts(hour, square));
            law.askHour(hour, town.season);
            law.askSquare(square, howMany);
        }

        int priceOf(int hour, int square) {
            askSquare(hour, square);
            return law.valueOf('p', 0, 99);
        }

        int worthOf(int hour, int square, int buyer, int way) {
            askSquare(hour, square);
            law.askBuyer(buyer, way);
            return law.valueOf('w', 0, 999);
        }

        /** Makes known where the trial caster casts in an hour. */
        void layTrial(int hour) {
            Arrays.fill(trialReached, 0);
            if (isUp(hour)) {
                spread(Town.TRIAL, hour, trialReached, 0, 1);
            }
        }

        /** Whether somebody casts on a square if c were as the trial that was laid for this hour. */
        boolean isShadedOnTrial(int c, int hour, int square) {
            if (!isFree(square)) {
                return false;
            }
            return (whoCasts(hour, square) & ~(1 << c)) != 0 || trialReached[square] != 0;
        }

        /** On how many squares the trial brings shade, or takes it. */
        int changedByTrial(int c, int hour, boolean brings) {
            layTrial(hour);
            int changed = 0;
            for (int square = 0; square < SQUARES; square++) {
                boolean before = whoCasts(hour, square) != 0;
                boolean after = isShadedOnTrial(c, hour, square);
                if (before != after && after == brings) {
                    changed++;
                }
            }
            return changed;
        }

        private void knowSky() {
            for (int hour = 0; hour < HOURS; hour++) {
                law.askHour(hour, town.season);
                up[hour] = law.anyHolds('u');
                east[hour] = law.valueOf('e', -9, 9);
                north[hour] = law.valueOf('n', -9, 9);
                cloud[hour] = law.valueOf('c', 0, 10);
            }
            skyKnown = true;
        }

        private void knowShade() {
            Arrays.fill(reached, 0);
            for (int square = 0; square < SQUARES; square++) {
                built[square] = false;
            }
            for (int c = 0; c < town.number; c++) {
                if (town.isStandingOf(c, Town.HOUSE)) {
                    built[town.place[c]] = true;
                }
            }
            for (int k = 0; k < HOURS * town.number; k++) {
                int hour = k % HOURS;
                int c = k / HOURS;
                if (up[hour] && town.isStanding(c)) {
                    spread(c, hour, reached, hour * SQUARES, 1 << c);
                }
            }
            shadeKnown = true;
        }

        private void spread(int c, int hour, int[] into, int base, int bit) {
            int x = town.place[c] % SIDE;
            int y = town.place[c] / SIDE;
            if (town.kind[c] == Town.AWNING) {
                int direction = town.direction[c];
                for (int k = 0; k < town.size[c]; k++) {
                    mark(x + k * eastOf(direction), y + k * northOf(direction), into, base, bit);
                }
                return;
            }
            if (town.kind[c] == Town.TREE) {
                mark(x, y, into, base, bit);
            }
            int greater = Math.max(Math.abs(east[hour]), Math.abs(north[hour]));
            if (greater == 0) {
                return;
            }
            int squares = Math.min(FARTHEST, greater * town.size[c] / 12);
            for (int k = 1; k <= squares; k++) {
                mark(x + east[hour] * k / greater, y + north[hour] * k / greater, into, base, bit);
            }
        }

        private static void mark(int x, int y, int[] into, int base, int bit) {
            if (inTown(x, y)) {
                into[base + SIDE * y + x] |= bit;
            }
        }
    }

    /** The best strip: costs to the end by hour and square, prices ahead of moves in one number. */
    private static final class Strips {
        static final int MOST_HOURS = 12;
        private static final int MOVES = 16;
        private static final int NEVER = 1 << 28;

        private final int[] toEnd = new int[MOST_HOURS * SQUARES];
        private final int[] row = new int[MOST_HOURS];
        private int first = 0;
        private int cost = NEVER;

        boolean find(Day day, int from, int to) {
            first = from;
            cost = NEVER;
            int hours = Math.min(MOST_HOURS, to - from);
            for (int k = hours - 1; k >= 0; k--) {
                reckonHour(day, k, k == hours - 1);
            }
            for (int square = 0; square < SQUARES; square++) {
                if (toEnd[square] < cost) {
                    cost = toEnd[square];
                    row[0] = square;
                }
            }
            for (int k = 1; k < hours && cost < NEVER; k++) {
                row[k] = bestAfter(k, row[k - 1]);
            }
            return cost < NEVER;
        }

        int prices() {
            return cost / MOVES;
        }

        int moves() {
            return cost % MOVES;
        }

        int squareIn(int hour) {
            int k = hour - first;
            return k >= 0 && k < MOST_HOURS ? row[k] : NONE;
        }

        private void reckonHour(Day day, int k, boolean last) {
            for (int square = 0; square < SQUARES; square++) {
                int least = NEVER;
                if (day.whoCasts(first + k, square) != 0) {
                    least = last ? 0 : costAfter(k + 1, square, bestAfter(k + 1, square));
                }
                if (least < NEVER) {
                    least += MOVES * day.priceOf(first + k, square);
                }
                toEnd[k * SQUARES + square] = least;
            }
        }

        private int costAfter(int k, int before, int square) {
            if (square < 0 || k >= MOST_HOURS) {
                return NEVER;
            }
            int after = toEnd[k * SQUARES + square];
            return after >= NEVER || square == before ? after : after + 1;
        }

        /** Where to be next: the least cost, then the lowest square. */
        private int bestAfter(int k, int before) {
            int best = before;
            int least = costAfter(k, before, before);
            for (int side = 0; side < 4; side++) {
                int square = beside(before, side);
                int after = costAfter(k, before, square);
                if (after < least || (after == least && square >= 0 && square < best)) {
                    least = after;
                    best = square;
                }
            }
            return best;
        }
    }

    /** Walks by parts of an hour: the fewest parts in the sun with which each square is come to. */
    private static final class Walks {
        private static final int PARTS_OF_HOUR = 6;
        private static final int MOST_PARTS_IN_SHADE = 72;
        private static final int MOST_PARTS = 36;
        private static final int NEVER = 1000;

        private int[] now = new int[SQUARES];
        private int[] next = new int[SQUARES];

        int soonestInShade(Day day, int from, int to, int hour) {
            begin(from);
            for (int part = 0; part < MOST_PARTS_IN_SHADE; part++) {
                if (now[to] == 0) {
                    return part;
                }
                step(day, (hour + part / PARTS_OF_HOUR) % HOURS);
            }
            return now[to] == 0 ? MOST_PARTS_IN_SHADE : THERE_IS_NONE;
        }

        /** Parts in the sun times 1000, and parts; THERE_IS_NONE if it can't be. */
        int leastSun(Day day, int from, int to, int hour) {
            begin(from);
            int least = now[to] * NEVER;
            for (int part = 0; part < MOST_PARTS; part++) {
                step(day, (hour + part / PARTS_OF_HOUR) % HOURS);
                least = Math.min(least, now[to] * NEVER + part + 1);
            }
            return least < NEVER * NEVER ? least : THERE_IS_NONE;
        }

        int sunOf(int least) {
            return least / NEVER;
        }

        int partsOf(int least) {
            return least % NEVER;
        }

        private void begin(int from) {
            Arrays.fill(now, NEVER);
            now[from] = 0;
        }

        private void step(Day day, int hour) {
            boolean up = day.isUp(hour);
            for (int square = 0; square < SQUARES; square++) {
                int least = NEVER;
                if (day.isFree(square)) {
                    least = leastAround(square);
                    if (least < NEVER && up && day.whoCasts(hour, square) == 0) {
                        least++;
                    }
                }
                next[square] = least;
            }
            int[] before = now;
            now = next;
            next = before;
        }

        private int leastAround(int square) {
            int x = square % SIDE;
            int least = now[square];
            least = x > 0 ? Math.min(least, now[square - 1]) : least;
            least = x < SIDE - 1 ? Math.min(least, now[square + 1]) : least;
            least = square >= SIDE ? Math.min(least, now[square - SIDE]) : least;
            return square < SQUARES - SIDE ? Math.min(least, now[square + SIDE]) : least;
        }
    }

    /** Buyers, what they get in a sale, and noon by turns. */
    private static final class Market {
        static final int MOST = 8;
        static final int ALL = 255;
        // a sum of worths stands above 32 bits, of which each buyer has four for its wanted square
        private static final int WORTH_SHIFT = 32;
        private static final int LAST = MOST - 1;

        private final int[] place = new int[MOST];
        private int told = 0;
        private final int[] wanted = new int[MOST * MOST];
        private final int[] wantedWorth = new int[MOST * MOST];
        private final int[] wantedNumber = new int[MOST];
        private final int[] passed = new int[MOST];
        private final long[] offer = new long[MOST];
        private final long[] best = new long[ALL + 1];
        private final int[] had = new int[MOST];
        private int sold = 0;
        private long sum = 0;

        boolean isNumber(int i) {
            return i >= 0 && i < MOST;
        }

        boolean isTold(int i) {
            return isNumber(i) && (told >> i & 1) == 1;
        }

        boolean areTold(int buyers) {
            return (buyers & ~told) == 0;
        }

        int howManyTold() {
            return Integer.bitCount(told);
        }

        void tell(int i, int square) {
            if (isNumber(i)) {
                place[i] = square;
                told |= 1 << i;
            }
        }

        int worthOf(Day day, int i, int square, int hour) {
            if (!isNumber(i)) {
                return NONE;
            }
            int eastward = Math.abs(square % SIDE - place[i] % SIDE);
            int northward = Math.abs(square / SIDE - place[i] / SIDE);
            return day.worthOf(hour, square, i, eastward + northward);
        }

        void sell(Day day, int hour, int buyers) {
            sold = buyers;
            for (int i = 0; i < MOST; i++) {
                wantedNumber[i] = 0;
                passed[i] = 0;
                if ((buyers >> i & 1) == 1) {
                    findWanted(day, i, hour);
                }
            }
            Arrays.fill(best, NONE);
            best[0] = 0;
            for (int square = 0; square < SQUARES; square++) {
                if (offersFor(square)) {
                    takeOffers();
                }
            }
            sum = bestOf(buyers);
        }

        int together() {
            return (int) (sum >> WORTH_SHIFT);
        }

        int squareOf(int i) {
            int k = wantedBy(i);
            return k == NONE ? NOBODY : wanted[k];
        }

        int pays(int i) {
            int k = wantedBy(i);
            int own = k == NONE ? 0 : wantedWorth[k];
            int without = (int) (bestOf(sold & ~(1 << i)) >> WORTH_SHIFT);
            return without - (together() - own);
        }

        int noonsOf(int i, int days, int shaded) {
            Arrays.fill(had, 0);
            int places = Math.min(MOST, shaded);
            for (int d = 0; d < days; d++) {
                int served = 0;
                for (int k = 0; k < places; k++) {
                    int next = nextAtNoon(served);
                    if (next != NONE) {
                        had[next]++;
                        served |= 1 << next;
                    }
                }
            }
            return isNumber(i) ? had[i] : NONE;
        }

        private int nextAtNoon(int served) {
            int next = NONE;
            for (int i = 0; i < MOST; i++) {
                boolean waits = isTold(i) && (served >> i & 1) == 0;
                if (waits && (next == NONE || had[i] < had[next])) {
                    next = i;
                }
            }
            return next;
        }

        /**
         * The eight squares of most worth, of like ones the lowest: seven others can't take all of them,
         * so no other square is ever needed. They stand in the order of their numbers.
         */
        private void findWanted(Day day, int i, int hour) {
            for (int square = 0; square < SQUARES; square++) {
                if (day.whoCasts(hour, square) != 0) {
                    want(i, square, worthOf(day, i, square, hour));
                }
            }
        }

        private void want(int i, int square, int worth) {
            int first = i * MOST;
            if (wantedNumber[i] == MOST) {
                int least = first;
                for (int k = first + 1; k < first + MOST; k++) {
                    if (wantedWorth[k] <= wantedWorth[least]) {
                        least = k;
                    }
                }
                if (worth <= wantedWorth[least]) {
                    return;
                }
                for (int k = least; k < first + LAST; k++) {
                    wanted[k] = wanted[k + 1];
                    wantedWorth[k] = wantedWorth[k + 1];
                }
                wantedNumber[i]--;
            }
            wanted[first + wantedNumber[i]] = square;
            wantedWorth[first + wantedNumber[i]] = worth;
            wantedNumber[i]++;
        }

        /** An earlier square counts more in its buyer's four bits, no square counts 0 there. */
        private boolean offersFor(int square) {
            boolean any = false;
            for (int i = 0; i < MOST; i++) {
                int k = passed[i];
                offer[i] = NONE;
                if (k < wantedNumber[i] && wanted[i * MOST + k] == square) {
                    offer[i] = ((long) wantedWorth[i * MOST + k] << WORTH_SHIFT) + ((long) (MOST - k) << 4 * (LAST - i));
                    passed[i]++;
                    any = true;
                }
            }
            return any;
        }

        private void takeOffers() {
            for (int buyers = ALL; buyers > 0; buyers--) {
                if ((buyers & ~sold) == 0) {
                    takeOffersFor(buyers);
                }
            }
        }

        private void takeOffersFor(int buyers) {
            for (int i = 0; i < MOST; i++) {
                if ((buyers >> i & 1) == 1 && offer[i] >= 0) {
                    long others = best[buyers & ~(1 << i)];
                    if (others >= 0) {
                        best[buyers] = Math.max(best[buyers], others + offer[i]);
                    }
                }
            }
        }

        private long bestOf(int buyers) {
            long most = 0;
            for (int some = 0; some <= ALL; some++) {
                if ((some & ~buyers) == 0) {
                    most = Math.max(most, best[some]);
                }
            }
            return most;
        }

        private int wantedBy(int i) {
            if (!isNumber(i)) {
                return NONE;
            }
            int early = (int) (sum >> 4 * (LAST - i)) & 15;
            return early >= 1 && early <= MOST ? i * MOST + MOST - early : NONE;
        }
    }

    /** Wishes for shade and for sun, and what would please them. */
    private static final class Wishes {
        static final int MOST = 16;

        private int told = 0;
        private final int[] place = new int[MOST];
        private final int[] from = new int[MOST];
        private final int[] to = new int[MOST];
        private final boolean[] forSun = new boolean[MOST];
        private final int[] weight = new int[MOST];
        private final int[] gain = new int[SQUARES];

        boolean isNumber(int k) {
            return k >= 0 && k < MOST;
        }

        boolean isTold(int k) {
            return isNumber(k) && (told >> k & 1) == 1;
        }

        int toldBits() {
            return told;
        }

        void tell(int k, int square, int first, int behind, boolean sun, int weighs) {
            if (isNumber(k)) {
                told |= 1 << k;
                place[k] = square;
                from[k] = first;
                to[k] = behind;
                forSun[k] = sun;
                weight[k] = weighs;
            }
        }

        int hoursKept(Day day, int k) {
            int hours = 0;
            for (int hour = 0; hour < HOURS; hour++) {
                if (isAsked(day, k, hour) && forSun[k] == (day.whoCasts(hour, place[k]) == 0)) {
                    hours++;
                }
            }
            return hours;
        }

        int happiness(Day day, boolean sun) {
            int together = 0;
            for (int k = 0; k < MOST; k++) {
                if (isTold(k) && forSun[k] == sun) {
                    together += weight[k] * hoursKept(day, k);
                }
            }
            return together;
        }

        int happinessOnTrial(Day day, int c, boolean sun) {
            int together = 0;
            for (int hour = 0; hour < HOURS; hour++) {
                day.layTrial(hour);
                for (int k = 0; k < MOST; k++) {
                    boolean asked = isAsked(day, k, hour) && forSun[k] == sun;
                    if (asked && sun != day.isShadedOnTrial(c, hour, place[k])) {
                        together += weight[k];
                    }
                }
            }
            return together;
        }

        /** Four times the square, and the direction; NONE without a free square. */
        int bestAwningOf(Day day, int length) {
            findGains(day);
            int best = NONE;
            int most = 0;
            for (int square = 0; square < SQUARES; square++) {
                for (int direction = 0; direction < 4 && day.isFree(square); direction++) {
                    int more = gainOfAwning(square, direction, length);
                    if (best == NONE || more > most) {
                        best = 4 * square + direction;
                        most = more;
                    }
                }
            }
            return best;
        }

        int gainOfAwning(int square, int direction, int length) {
            int together = 0;
            int under = square;
            for (int k = 0; k < length && under >= 0 && under < SQUARES; k++) {
                together += gain[under];
                under = beside(under, direction);
            }
            return together;
        }

        /**
         * Whoever reaches a wish for sun must go, unless a house that stays keeps its square from being free;
         * a house that must go in turn leaves its square free. So the set grows till nothing follows from it.
         */
        int inTheWayOfSun(Day day, Town town) {
            int gone = 0;
            for (int round = 0; round <= Town.MOST; round++) {
                for (int k = 0; k < MOST; k++) {
                    if (isTold(k) && forSun[k] && !isHeldByHouse(town, place[k], gone)) {
                        gone |= whoReachesWish(day, k);
                    }
                }
            }
            return gone;
        }

        private boolean isHeldByHouse(Town town, int square, int gone) {
            int house = town.houseOn(square);
            return house != NONE && (gone >> house & 1) == 0;
        }

        private int whoReachesWish(Day day, int k) {
            int who = 0;
            for (int hour = from[k]; hour < to[k]; hour++) {
                who |= day.whoReaches(hour, place[k]);
            }
            return who;
        }

        private boolean isAsked(Day day, int k, int hour) {
            return isTold(k) && hour >= from[k] && hour < to[k] && day.isUp(hour) && day.isFree(place[k]);
        }

        /** By how much all are happier if somebody casts on a square all day. */
        private void findGains(Day day) {
            Arrays.fill(gain, 0);
            for (int k = 0; k < MOST; k++) {
                for (int hour = 0; hour < HOURS; hour++) {
                    if (isAsked(day, k, hour) && day.whoCasts(hour, place[k]) == 0) {
                        gain[place[k]] += forSun[k] ? -weight[k] : weight[k];
                    }
                }
            }
        }
    }

    /** Days by drawn clouds: what each hour brings is the same on all of them, so it is reckoned once. */
    private static final class Clouds {
        private final int[] brought = new int[HOURS * OWNERS];

        int drawDays(Day day, Town town, int days) {
            Arrays.fill(brought, 0);
            for (int hour = 0; hour < HOURS; hour++) {
                if (day.isUp(hour)) {
                    bringHour(day, town, hour);
                }
            }
            int together = 0;
            for (int k = 0; k < days * HOURS; k++) {
                town.drawn = (25173 * town.drawn + 13849) % 65536;
                int hour = k % HOURS;
                if (day.isUp(hour) && town.drawn % 10 >= day.cloudAt(hour)) {
                    together += payHour(town, hour);
                }
            }
            return together;
        }

        private void bringHour(Day day, Town town, int hour) {
            for (int square = 0; square < SQUARES; square++) {
                int who = day.whoCasts(hour, square);
                if (who != 0) {
                    int part = day.priceOf(hour, square) / Integer.bitCount(who);
                    for (int c = 0; c < Town.MOST; c++) {
                        if ((who >> c & 1) == 1) {
                            brought[hour * OWNERS + town.owner[c]] += part;
                        }
                    }
                }
            }
        }

        private int payHour(Town town, int hour) {
            int together = 0;
            for (int owner = 0; owner < OWNERS; owner++) {
                int part = brought[hour * OWNERS + owner];
                town.purse[owner] += part;
                together += part;
            }
            return together;
        }
    }
}
