/** Skittles in lanes, as ../shared/DOC.md promises; words in capitals there are told there. */
public final class PinLanes {
    public static final int NONE = -1, UNKNOWN = -101, OUTSIDE = -102, STATE = -103, FULL = -104;

    private static final int PIN = 0, LEAN = 1, STOUT = 2, FIXED = 3, DOUBLE = 4, KINDS = 5;
    private static final int MOST_LETTERS = 16, LAST_CODE = 126;
    private static final int MOST_PINS = 9, MOST_LANES = 3, LONGEST_LANE = 6, BIGGEST_BALL = 3;
    private static final int MOST_STRIKES = 999, MOST_SEEN = 6, MOST_FELL = 3, MOST_GAMES = 40;
    private static final int LONGEST_ROW = 40, LONGEST_PERIOD = 20, LATEST_FROM = 20;
    private static final int LAST_HAS_WON = 0, LAST_HAS_LOST = 1;
    private static final int SURE = 1000000;

    private final char[] page = new char[MOST_LETTERS];
    private int letters;
    private int greensRead;
    private final Reading reading = new Reading();
    private final Green now = new Green();
    private final Green kept = new Green();
    private boolean isKept;
    private final Strikes strikes = new Strikes();
    private final Outlook outlook = new Outlook();
    private boolean outlookIsOld;
    private final Rows rows = new Rows();
    private final Games played = new Games();

    public PinLanes() {
    }

    // ---- the green

    public int letter(int code) {
        if (code < 1 || code > LAST_CODE) {
            return OUTSIDE;
        }
        if (letters >= MOST_LETTERS) {
            return FULL;
        }
        page[letters] = (char) code;
        letters++;
        return letters;
    }

    public int blank() {
        int had = letters;
        letters = 0;
        return had;
    }

    public int fault() {
        return readPage();
    }

    public int green() {
        if (readPage() < letters || !reading.isWhole()) {
            return STATE;
        }
        now.copyFrom(reading.made);
        now.setAllUp();
        letters = 0;
        isKept = false;
        greensRead++;
        strikesChanged();
        return now.pins;
    }

    public int pin(int pin, int what) {
        if (!now.hasPin(pin)) {
            return UNKNOWN;
        }
        switch (what) {
            case 0: return now.kinds[pin];
            case 1: return now.laneOf[pin];
            case 2: return now.standing >> pin & 1;
            case 3: return strikes.fallen(strikes.find(pin, 1), now.standing);
            case 4: return now.seen.sortsOf(pin);
            case 5: return Seen.wayFor(now.seen.sortsOf(pin));
            default: return OUTSIDE;
        }
    }

    public int as(int pin, int kind) {
        if (!now.hasPin(pin)) {
            return UNKNOWN;
        }
        if (!isKind(kind)) {
            return OUTSIDE;
        }
        return isAlso(now.kinds[pin], kind) ? pin : NONE;
    }

    public int lane(int lane, int what) {
        if (!now.hasLane(lane)) {
            return UNKNOWN;
        }
        switch (what) {
            case 0: return now.lengths[lane];
            case 1: return now.firsts[lane];
            case 2: return Integer.bitCount(now.standingIn(lane));
            case 3: return numberOfLane(lane);
            case 4: return rowsNow().alike(numberOfLane(lane));
            default: return OUTSIDE;
        }
    }

    public int falls(int pin, int many) {
        if (!now.hasPin(pin)) {
            return UNKNOWN;
        }
        if (!isBall(many)) {
            return OUTSIDE;
        }
        int fallen = strikes.fallen(strikes.find(pin, many), now.standing);
        return fallen == 0 ? STATE : fallen;
    }

    // ---- what is done

    public int strike(int pin, int many) {
        int fallen = falls(pin, many);
        if (fallen < 0) {
            return fallen;
        }
        if (now.struck >= MOST_STRIKES) {
            return FULL;
        }
        now.standing &= ~fallen;
        now.struck++;
        return Integer.bitCount(fallen);
    }

    public int set(int pin) {
        if (!now.hasPin(pin)) {
            return UNKNOWN;
        }
        if ((now.standing >> pin & 1) == 1) {
            return STATE;
        }
        now.standing |= 1 << pin;
        return Integer.bitCount(now.standing);
    }

    public int all() {
        if (!hasGreen()) {
            return STATE;
        }
        int had = now.pins - Integer.bitCount(now.standing);
        now.setAllUp();
        return had;
    }

    public int ball(int ball) {
        if (!isBall(ball)) {
            return OUTSIDE;
        }
        if (!hasGreen()) {
            return STATE;
        }
        int was = now.ball;
        now.ball = ball;
        strikesChanged();
        return was;
    }

    public int rule() {
        if (!hasGreen()) {
            return STATE;
        }
        int was = now.law;
        now.law = was == LAST_HAS_WON ? LAST_HAS_LOST : LAST_HAS_WON;
        outlookIsOld = true;
        return was;
    }

    public int change(int pin, int kind) {
        if (!now.hasPin(pin)) {
            return UNKNOWN;
        }
        if (!isKind(kind)) {
            return OUTSIDE;
        }
        int was = now.kinds[pin];
        now.kinds[pin] = kind;
        strikesChanged();
        return was;
    }

    // ---- what would be

    public int number() {
        if (!hasGreen()) {
            return STATE;
        }
        int together = 0;
        for (int lane = 0; lane < now.lanes; lane++) {
            together ^= numberOfLane(lane);
        }
        return together;
    }

    public int wins() {
        if (!hasGreen()) {
            return STATE;
        }
        return outlookNow().wins[now.standing];
    }

    public int best(int what) {
        if (what < 0 || what > 3) {
            return OUTSIDE;
        }
        if (!hasGreen()) {
            return STATE;
        }
        switch (what) {
            case 0: return outlookNow().firstGood(strikes, now.standing);
            case 1: return outlookNow().howManyGood(strikes, now.standing);
            case 2: return outlookNow().fewest[now.standing];
            default: return outlookNow().most[now.standing];
        }
    }

    public int row(int pins) {
        if (pins < 0 || pins > LONGEST_ROW) {
            return OUTSIDE;
        }
        if (!hasGreen()) {
            return STATE;
        }
        return rowsNow().numbers[pins];
    }

    public int period(int what) {
        if (what < 0 || what > 1) {
            return OUTSIDE;
        }
        if (!hasGreen()) {
            return STATE;
        }
        int found = rowsNow().leastPeriod();
        if (found == NONE || what == 0) {
            return found;
        }
        return rowsNow().leastFrom(found);
    }

    public int likely() {
        if (!hasGreen()) {
            return STATE;
        }
        return outlookNow().likely[now.standing];
    }

    // ---- what is seen

    public int see(int pin, int way, int fell) {
        if (!now.hasPin(pin)) {
            return UNKNOWN;
        }
        if (way < 0 || way > 1 || fell < 0 || fell > MOST_FELL) {
            return OUTSIDE;
        }
        if (now.seen.size >= MOST_SEEN) {
            return FULL;
        }
        now.seen.add(pin, way, fell);
        return now.seen.size;
    }

    public int forget() {
        int had = now.seen.size;
        now.seen.size = 0;
        return had;
    }

    public int games(int times, int seed, int what) {
        if (times < 1 || times > MOST_GAMES || seed < 0 || what < 0 || what > 2) {
            return OUTSIDE;
        }
        if (!hasGreen()) {
            return STATE;
        }
        played.play(times, seed, strikes, now);
        switch (what) {
            case 0: return played.won;
            case 1: return played.pinsFallen;
            default: return (int) played.seed;
        }
    }

    // ---- what is told of all

    public int image() {
        if (!hasGreen()) {
            return STATE;
        }
        kept.copyFrom(now);
        isKept = true;
        return now.struck;
    }

    public int restore() {
        if (!isKept) {
            return STATE;
        }
        now.copyFrom(kept);
        strikesChanged();
        return now.struck;
    }

    public int count(int what) {
        switch (what) {
            case 0: return now.pins;
            case 1: return now.lanes;
            case 2: return Integer.bitCount(now.standing);
            case 3: return now.ball;
            case 4: return now.law;
            case 5: return strikes.howMany(now.standing);
            case 6: return now.struck;
            case 7: return now.seen.size;
            case 8: return letters;
            case 9: return greensRead;
            default: return OUTSIDE;
        }
    }

    public long digest() {
        long h = 1307;
        for (int pin = 0; pin < now.pins; pin++) {
            for (int what = 0; what <= 5; what++) {
                h = 31 * h + pin(pin, what);
            }
        }
        for (int lane = 0; lane < now.lanes; lane++) {
            for (int what = 0; what <= 4; what++) {
                h = 31 * h + lane(lane, what);
            }
        }
        if (hasGreen()) {
            h = 31 * h + number();
            h = 31 * h + wins();
            for (int what = 0; what <= 3; what++) {
                h = 31 * h + best(what);
            }
            h = 31 * h + row(20);
            h = 31 * h + period(0);
            h = 31 * h + period(1);
            h = 31 * h + likely();
        }
        for (int place = 0; place < letters; place++) {
            h = 31 * h + page[place];
        }
        for (int what = 0; what <= 9; what++) {
            h = 31 * h + count(what);
        }
        return h;
    }

    /** How many letters of the page, from its first on, a green can begin with. */
    private int readPage() {
        reading.begin();
        for (int place = 0; place < letters; place++) {
            if (!reading.takes(page[place])) {
                return place;
            }
        }
        return letters;
    }

    private boolean hasGreen() {
        return now.pins > 0;
    }

    private int numberOfLane(int lane) {
        // Of what stands in one lane alone, the strikes are those of that lane.
        return outlookNow().numbers[now.standingIn(lane)];
    }

    /** To be called wherever kinds, lanes or the ball become others. */
    private void strikesChanged() {
        strikes.listFor(now);
        outlookIsOld = true;
    }

    private Outlook outlookNow() {
        if (outlookIsOld) {
            outlook.fill(strikes, now.pins, now.law);
            outlookIsOld = false;
        }
        return outlook;
    }

    private Rows rowsNow() {
        rows.fillFor(now.ball);
        return rows;
    }

    private static boolean isKind(int kind) {
        return kind >= PIN && kind < KINDS;
    }

    private static boolean isBall(int ball) {
        return ball >= 1 && ball <= BIGGEST_BALL;
    }

    private static boolean isAlso(int kind, int other) {
        return other == PIN || kind == other || kind == DOUBLE && other == LEAN;
    }

    private static int bits(int first, int many) {
        return ((1 << many) - 1) << first;
    }

    /** Numbers as bits: a green has 27 strikes at most, and no row has a number above 16, so a long has room. */
    private static int leastNotIn(long numbers) {
        int number = 0;
        while (number < 63 && (numbers >> number & 1) == 1) {
            number++;
        }
        return number;
    }

    /** All that an image keeps, and the lanes, which no call but green() makes others. */
    private static final class Green {
        int pins;
        int lanes;
        final int[] kinds = new int[MOST_PINS];
        final int[] laneOf = new int[MOST_PINS];
        final int[] firsts = new int[MOST_LANES];
        final int[] lengths = new int[MOST_LANES];
        int ball;
        int law;
        int standing;
        int struck;
        final Seen seen = new Seen();

        void copyFrom(Green other) {
            pins = other.pins;
            lanes = other.lanes;
            System.arraycopy(other.kinds, 0, kinds, 0, MOST_PINS);
            System.arraycopy(other.laneOf, 0, laneOf, 0, MOST_PINS);
            System.arraycopy(other.firsts, 0, firsts, 0, MOST_LANES);
            System.arraycopy(other.lengths, 0, lengths, 0, MOST_LANES);
            ball = other.ball;
            law = other.law;
            standing = other.standing;
            struck = other.struck;
            seen.copyFrom(other.seen);
        }

        void setAllUp() {
            standing = (1 << pins) - 1;
        }

        boolean hasPin(int pin) {
            return pin >= 0 && pin < pins;
        }

        boolean hasLane(int lane) {
            return lane >= 0 && lane < lanes;
        }

        int standingIn(int lane) {
            return standing & bits(firsts[lane], lengths[lane]);
        }

        boolean addLane() {
            // A lane behind nine pins could have none, so no green goes on like that.
            if (lanes >= MOST_LANES || pins >= MOST_PINS) {
                return false;
            }
            firsts[lanes] = pins;
            lengths[lanes] = 0;
            lanes++;
            return true;
        }

        boolean addPin(int kind) {
            int lane = lanes - 1;
            if (!hasLane(lane) || lengths[lane] >= LONGEST_LANE || pins >= MOST_PINS) {
                return false;
            }
            kinds[pins] = kind;
            laneOf[pins] = lane;
            lengths[lane]++;
            pins++;
            return true;
        }

        boolean lastLaneHasPins() {
            return hasLane(lanes - 1) && lengths[lanes - 1] > 0;
        }

        /** Whether these pins can be taken together, if all of them stand. */
        boolean canBeTaken(int first, int many) {
            int last = first + many - 1;
            if (!hasPin(first) || !hasPin(last) || laneOf[first] != laneOf[last]) {
                return false;
            }
            for (int pin = first; pin <= last; pin++) {
                if (kinds[pin] == FIXED || kinds[pin] == STOUT && many > 1) {
                    return false;
                }
            }
            return true;
        }

        /** Whether a pin that falls takes that other one with it, which is next to it, if it stands. */
        boolean takesAlong(int pin, int other) {
            if (!hasPin(pin) || !hasPin(other) || laneOf[pin] != laneOf[other]) {
                return false;
            }
            boolean reaches = isAlso(kinds[pin], other > pin ? LEAN : DOUBLE);
            return reaches && kinds[other] != STOUT && kinds[other] != FIXED;
        }
    }

    /** Reads a green letter by letter, as far as a green can have them. */
    private static final class Reading {
        private static final String KIND_LETTERS = "pnsfd";
        private static final int IN_LANES = 0, AT_BALL = 1, AT_LAW = 2, AT_END = 3;

        final Green made = new Green();
        int part;

        void begin() {
            made.pins = 0;
            made.lanes = 0;
            made.addLane();
            part = IN_LANES;
        }

        boolean isWhole() {
            return part == AT_END;
        }

        boolean takes(char letter) {
            switch (part) {
                case IN_LANES: return takesInLanes(letter);
                case AT_BALL: return takesBall(letter);
                case AT_LAW: return takesLaw(letter);
                default: return false;
            }
        }

        private boolean takesInLanes(char letter) {
            if (letter == ',') {
                return made.lastLaneHasPins() && made.addLane();
            }
            if (letter == ';') {
                part = AT_BALL;
                return made.lastLaneHasPins();
            }
            int kind = KIND_LETTERS.indexOf(letter);
            return kind >= 0 && made.addPin(kind);
        }

        private boolean takesBall(char letter) {
            made.ball = letter - '0';
            part = AT_LAW;
            return isBall(made.ball);
        }

        private boolean takesLaw(char letter) {
            made.law = letter == 'l' ? LAST_HAS_LOST : LAST_HAS_WON;
            part = AT_END;
            return letter == 'w' || letter == 'l';
        }
    }

    /** What was seen of pins of which the kind is not known. */
    private static final class Seen {
        private static final int ALL_SORTS = (1 << KINDS) - 1;
        // How many fall, kind by kind, of three with plain ones on both sides: taken alone, with the right one.
        private static final int[] FELL = {1, 2, 2, 2, 1, 0, 0, 0, 3, 3};

        int size;
        final int[] pins = new int[MOST_SEEN];
        final int[] ways = new int[MOST_SEEN];
        final int[] fell = new int[MOST_SEEN];

        void copyFrom(Seen other) {
            size = other.size;
            System.arraycopy(other.pins, 0, pins, 0, MOST_SEEN);
            System.arraycopy(other.ways, 0, ways, 0, MOST_SEEN);
            System.arraycopy(other.fell, 0, fell, 0, MOST_SEEN);
        }

        void add(int pin, int way, int howMany) {
            if (size >= MOST_SEEN) {
                return;
            }
            pins[size] = pin;
            ways[size] = way;
            fell[size] = howMany;
            size++;
        }

        int sortsOf(int pin) {
            int sorts = ALL_SORTS;
            for (int i = 0; i < size && i < MOST_SEEN; i++) {
                if (pins[i] == pin) {
                    sorts &= sortsThatFell(ways[i], fell[i]);
                }
            }
            return sorts;
        }

        static int wayFor(int sorts) {
            if (sorts == 0) {
                return NONE;
            }
            return leftAtWorst(sorts, 1) < leftAtWorst(sorts, 0) ? 1 : 0;
        }

        private static int leftAtWorst(int sorts, int way) {
            int worst = 0;
            for (int howMany = 0; howMany <= MOST_FELL; howMany++) {
                worst = Math.max(worst, Integer.bitCount(sorts & sortsThatFell(way, howMany)));
            }
            return worst;
        }

        private static int sortsThatFell(int way, int howMany) {
            int sorts = 0;
            for (int kind = 0; kind < KINDS; kind++) {
                if (FELL[2 * kind + (way & 1)] == howMany) {
                    sorts |= 1 << kind;
                }
            }
            return sorts;
        }
    }

    /** The strikes of a green with all pins standing, by the first pin and then by how many. */
    private static final class Strikes {
        private static final int MOST = MOST_PINS * BIGGEST_BALL;

        int size;
        final int[] firsts = new int[MOST];
        final int[] counts = new int[MOST];
        final int[] taken = new int[MOST];
        int takesRight;
        int takesLeft;

        void listFor(Green green) {
            size = 0;
            takesRight = 0;
            takesLeft = 0;
            for (int pin = 0; pin < green.pins; pin++) {
                for (int many = 1; many <= green.ball; many++) {
                    if (green.canBeTaken(pin, many)) {
                        add(pin, many);
                    }
                }
                takesRight |= green.takesAlong(pin, pin + 1) ? 1 << pin : 0;
                takesLeft |= green.takesAlong(pin, pin - 1) ? 1 << pin : 0;
            }
        }

        private void add(int pin, int many) {
            if (size >= MOST) {
                return;
            }
            firsts[size] = pin;
            counts[size] = many;
            taken[size] = bits(pin, many);
            size++;
        }

        int find(int pin, int many) {
            for (int i = 0; i < size; i++) {
                if (firsts[i] == pin && counts[i] == many) {
                    return i;
                }
            }
            return NONE;
        }

        /** What falls, as bits; 0, if it is no strike by what stands. */
        int fallen(int i, int standing) {
            if (i < 0 || i >= size || (standing & taken[i]) != taken[i]) {
                return 0;
            }
            // What falls is always one run of pins, so only its two ends can take more along.
            int fallen = taken[i];
            int right = firsts[i] + counts[i] - 1;
            while (right + 1 < MOST_PINS && (takesRight >> right & standing >> (right + 1) & 1) == 1) {
                right++;
                fallen |= 1 << right;
            }
            int left = firsts[i];
            while (left > 0 && (takesLeft >> left & standing >> (left - 1) & 1) == 1) {
                left--;
                fallen |= 1 << left;
            }
            return fallen;
        }

        int howMany(int standing) {
            int there = 0;
            for (int i = 0; i < size; i++) {
                if ((standing & taken[i]) == taken[i]) {
                    there++;
                }
            }
            return there;
        }

        /** What falls by the strike with that number, from 0 on, of those that there are. */
        int fallenByNumber(int number, int standing) {
            int ahead = number;
            for (int i = 0; i < size; i++) {
                if ((standing & taken[i]) == taken[i]) {
                    if (ahead == 0) {
                        return fallen(i, standing);
                    }
                    ahead--;
                }
            }
            return 0;
        }
    }

    /** What would be, for each way of pins to stand (as bits). */
    private static final class Outlook {
        private static final int WAYS_TO_STAND = 1 << MOST_PINS;

        final int[] numbers = new int[WAYS_TO_STAND];
        final int[] wins = new int[WAYS_TO_STAND];
        final int[] fewest = new int[WAYS_TO_STAND];
        final int[] most = new int[WAYS_TO_STAND];
        final int[] likely = new int[WAYS_TO_STAND];

        void fill(Strikes strikes, int pins, int law) {
            int end = Math.min(1 << pins, WAYS_TO_STAND);
            // What is left by a strike is a lesser number than what stood, so it is there already.
            for (int standing = 0; standing < end; standing++) {
                weigh(strikes, standing, law);
            }
        }

        private void weigh(Strikes strikes, int standing, int law) {
            int there = 0;
            long numbersLeft = 0;
            int winning = 0;
            int least = MOST_PINS;
            int longest = 0;
            int chances = 0;
            for (int i = 0; i < strikes.size; i++) {
                int fallen = strikes.fallen(i, standing);
                if (fallen != 0) {
                    int left = standing & ~fallen;
                    there++;
                    numbersLeft |= 1L << numbers[left];
                    winning |= 1 - wins[left];
                    least = Math.min(least, 1 + fewest[left]);
                    longest = Math.max(longest, 1 + most[left]);
                    chances += SURE - likely[left];
                }
            }
            numbers[standing] = leastNotIn(numbersLeft);
            // Without a strike the other one has struck last: who is next has won just where the law is 1.
            wins[standing] = there == 0 ? law : winning;
            fewest[standing] = there == 0 ? 0 : least;
            most[standing] = longest;
            likely[standing] = there == 0 ? law * SURE : chances / there;
        }

        int firstGood(Strikes strikes, int standing) {
            for (int i = 0; i < strikes.size; i++) {
                if (isGood(strikes, i, standing)) {
                    return 10 * strikes.firsts[i] + strikes.counts[i];
                }
            }
            return NONE;
        }

        int howManyGood(Strikes strikes, int standing) {
            int good = 0;
            for (int i = 0; i < strikes.size; i++) {
                if (isGood(strikes, i, standing)) {
                    good++;
                }
            }
            return good;
        }

        private boolean isGood(Strikes strikes, int i, int standing) {
            int fallen = strikes.fallen(i, standing);
            return fallen != 0 && wins[standing & ~fallen] == 0;
        }
    }

    /** The numbers of rows of plain pins. */
    private static final class Rows {
        int filledFor;
        final int[] numbers = new int[LONGEST_ROW + 1];

        void fillFor(int ball) {
            if (filledFor == ball) {
                return;
            }
            for (int pins = 0; pins <= LONGEST_ROW; pins++) {
                numbers[pins] = numberOf(pins, ball);
            }
            filledFor = ball;
        }

        private int numberOf(int pins, int ball) {
            long numbersLeft = 0;
            for (int many = 1; many <= ball && many <= pins; many++) {
                int rest = pins - many;
                for (int left = 0; left <= rest; left++) {
                    numbersLeft |= 1L << (numbers[left] ^ numbers[rest - left]);
                }
            }
            return leastNotIn(numbersLeft);
        }

        int alike(int number) {
            for (int pins = 0; pins <= LONGEST_ROW; pins++) {
                if (numbers[pins] == number) {
                    return pins;
                }
            }
            return NONE;
        }

        int leastPeriod() {
            for (int period = 1; period <= LONGEST_PERIOD; period++) {
                if (leastFrom(period) <= LATEST_FROM) {
                    return period;
                }
            }
            return NONE;
        }

        int leastFrom(int period) {
            int from = LONGEST_ROW + 1 - period;
            while (from > 0 && numbers[from - 1] == numbers[from - 1 + period]) {
                from--;
            }
            return from;
        }
    }

    /** Games with drawn strikes. */
    private static final class Games {
        int won;
        int pinsFallen;
        long seed;

        void play(int times, int firstSeed, Strikes strikes, Green green) {
            won = 0;
            pinsFallen = 0;
            seed = firstSeed;
            for (int game = 0; game < times; game++) {
                int struck = playOne(strikes, green.standing);
                // Who began has struck last if the number of strikes is odd.
                int lastByOther = 1 - (struck & 1);
                if (lastByOther == green.law) {
                    won++;
                }
            }
        }

        private int playOne(Strikes strikes, int allStanding) {
            int standing = allStanding;
            int struck = 0;
            int there = strikes.howMany(standing);
            while (there > 0 && struck < MOST_PINS) {
                int fallen = strikes.fallenByNumber(draw(there), standing);
                standing &= ~fallen;
                pinsFallen += Integer.bitCount(fallen);
                struck++;
                there = strikes.howMany(standing);
            }
            return struck;
        }

        private int draw(int of) {
            seed = (1103515245L * seed + 12345L) % 2147483648L;
            return of > 0 ? (int) (seed / 65536L % of) : 0;
        }
    }
}
