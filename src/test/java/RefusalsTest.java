import java.util.ArrayList;
import java.util.List;

/**
 * Every refusal that a promise tells, in every kind of state: each call is asked with all its arguments just inside and
 * just outside of their bounds, the first refusal as told must come, and whatever was refused has changed nothing.
 */
public final class RefusalsTest {
    private static final int NONE = -1, UNKNOWN = -101, OUTSIDE = -102, STATE = -103, FULL = -104, ALLOWED = 1;
    private static final int MIN = Integer.MIN_VALUE, MAX = Integer.MAX_VALUE;
    /** Bounds of all arguments, and numbers that a shift or a cast to a lesser type would take for small ones. */
    private static final int[] EDGES = {MIN, -32, -1, 0, 1, 2, 3, 4, 5, 6, 7, 8, 9, 10, 32, 33, 40, 41, 256, MAX};
    private static final int[] SHORT_EDGES = {MIN, -1, 0, 1, 2, 3, 4, 8, 9, 32, 40, 41, MAX};
    /** So many refused calls fit into the 512 of an object, beside those that make it and those that look at it. */
    private static final int MOST_REFUSED = 120;

    private static int asked = 0;
    private static int refusedInAll = 0;
    private static int wrong = 0;

    private interface Maker {
        PinLanes make();
    }

    private interface Call {
        long on(PinLanes x, int[] a);
    }

    /** The first refusal that the promise tells, or ALLOWED. */
    private interface Told {
        int first(State state, int[] a);
    }

    /** What a test knows of a state beforehand, found by hand. */
    private static final class State {
        final String name;
        final Maker maker;
        int pins = 0;
        int lanes = 0;
        int ball = 0;
        String kinds = "";
        String laneOf = "";
        String stands = "";
        int letters = 0;
        int seen = 0;
        boolean pageIsGreen = false;
        boolean isKept = false;

        State(String name, Maker maker) {
            this.name = name;
            this.maker = maker;
        }

        State green(String kinds, String laneOf, String stands, int ball) {
            this.kinds = kinds;
            this.laneOf = laneOf;
            this.stands = stands;
            this.ball = ball;
            pins = kinds.length();
            lanes = laneOf.charAt(pins - 1) - '0' + 1;
            return this;
        }

        State page(int many, boolean isGreen) {
            letters = many;
            pageIsGreen = isGreen;
            return this;
        }

        State seen(int many) {
            seen = many;
            return this;
        }

        State kept() {
            isKept = true;
            return this;
        }

        boolean hasPin(int pin) {
            return within(pin, 0, pins - 1);
        }

        boolean isStrike(int pin, int many) {
            if (many > ball || pin + many > pins) {
                return false;
            }
            for (int i = pin; i < pin + many; i++) {
                boolean fits = kinds.charAt(i) != 'f' && (kinds.charAt(i) != 's' || many == 1);
                if (!fits || stands.charAt(i) != '1' || laneOf.charAt(i) != laneOf.charAt(pin)) {
                    return false;
                }
            }
            return true;
        }
    }

    public static void main(String[] args) {
        for (State state : states()) {
            isAsKnown(state);
            theGreen(state);
            whatIsDone(state);
            whatWouldBe(state);
            whatIsSeen(state);
            whatIsToldOfAll(state);
        }
        System.out.println("RefusalsTest: " + asked + " calls, " + refusedInAll + " of them refused, " + wrong + " wrong");
        if (wrong != 0) {
            System.exit(1);
        }
    }

    // ---- the states

    private static List<State> states() {
        List<State> all = new ArrayList<>();
        all.add(new State("a new object", PinLanes::new));
        all.add(new State("a page, no green", () -> written("pn;2")).page(4, false));
        all.add(new State("a page that is a green, none read", () -> written("pn;2w")).page(5, true));
        all.add(new State("a full page, no green", () -> written("pnsfdpn,sfdpnsfd")).page(16, false));
        all.add(new State("one pin", () -> green("p;1w")).green("p", "0", "1", 1));
        all.add(new State("one fixed pin, no strike at all", () -> green("f;3l")).green("f", "0", "1", 3));
        all.add(new State("six in a lane", () -> green("psnfdp;2l")).green("psnfdp", "000000", "111111", 2));
        all.add(new State("nine in three lanes", () -> green("pnsfd,dp,np;3l"))
                .green("pnsfddpnp", "000001122", "111111111", 3));
        all.add(new State("played, kept, seen, a page", RefusalsTest::played)
                .green("pnsfddpnp", "000001122", "110110111", 3).seen(2).kept().page(4, true));
        all.add(new State("seen and page are full", RefusalsTest::full)
                .green("ppn", "000", "101", 3).seen(6).page(16, false));
        all.add(new State("none stands", RefusalsTest::cleared).green("ppp", "001", "000", 2).kept());
        all.add(new State("another green since the image", RefusalsTest::another).green("ds", "01", "11", 1));
        return all;
    }

    private static PinLanes written(String text) {
        PinLanes x = new PinLanes();
        write(x, text);
        return x;
    }

    private static void write(PinLanes x, String text) {
        for (int i = 0; i < text.length(); i++) {
            x.letter(text.charAt(i));
        }
    }

    private static PinLanes green(String text) {
        PinLanes x = written(text);
        x.green();
        return x;
    }

    private static PinLanes played() {
        PinLanes x = green("pnsfd,dp,np;3l");
        x.strike(0, 2);
        x.see(8, 1, 3);
        x.image();
        x.all();
        x.strike(2, 1);
        x.strike(5, 1);
        x.see(0, 0, 1);
        x.set(5);
        x.strike(5, 1);
        x.set(6);
        write(x, "p;1w");
        return x;
    }

    private static PinLanes full() {
        PinLanes x = green("ppn;3w");
        x.strike(1, 1);
        for (int i = 0; i < 6; i++) {
            x.see(i % 3, i % 2, i % 4);
        }
        write(x, "pppppppppppppppp");
        return x;
    }

    private static PinLanes cleared() {
        PinLanes x = green("pp,p;2w");
        x.image();
        x.strike(2, 1);
        x.strike(0, 2);
        return x;
    }

    private static PinLanes another() {
        PinLanes x = green("pp,p;2w");
        x.see(1, 1, 1);
        x.image();
        write(x, "d,s;1l");
        x.green();
        return x;
    }

    private static void isAsKnown(State state) {
        PinLanes x = state.maker.make();
        int standing = state.stands.replace("0", "").length();
        int[] told = {state.pins, state.lanes, standing, state.ball};
        for (int what = 0; what < told.length; what++) {
            due(state, "count(" + what + ")", x.count(what), told[what]);
        }
        due(state, "count(7)", x.count(7), state.seen);
        due(state, "count(8)", x.count(8), state.letters);
        for (int pin = 0; pin < state.pins; pin++) {
            due(state, "pin(" + pin + ", 0)", x.pin(pin, 0), "pnsfd".indexOf(state.kinds.charAt(pin)));
            due(state, "pin(" + pin + ", 1)", x.pin(pin, 1), state.laneOf.charAt(pin) - '0');
            due(state, "pin(" + pin + ", 2)", x.pin(pin, 2), state.stands.charAt(pin) - '0');
        }
    }

    // ---- the refusals, promise by promise

    private static void theGreen(State state) {
        int[] codes = {MIN, -1, 0, 1, 2, 125, 126, 127, 128, 256 + 112, 65536 + 112, MAX};
        ask(state, "2 letter", (x, a) -> x.letter(a[0]), (s, a) -> !within(a[0], 1, 126) ? OUTSIDE
                : s.letters == 16 ? FULL : ALLOWED, codes);
        ask(state, "3 blank", (x, a) -> x.blank(), (s, a) -> ALLOWED);
        ask(state, "4 fault", (x, a) -> x.fault(), (s, a) -> ALLOWED);
        ask(state, "5 green", (x, a) -> x.green(), (s, a) -> s.pageIsGreen ? ALLOWED : STATE);
        ask(state, "6 pin", (x, a) -> x.pin(a[0], a[1]), (s, a) -> !s.hasPin(a[0]) ? UNKNOWN
                : !within(a[1], 0, 5) ? OUTSIDE : ALLOWED, EDGES, EDGES);
        ask(state, "7 as", (x, a) -> x.as(a[0], a[1]), (s, a) -> !s.hasPin(a[0]) ? UNKNOWN
                : !within(a[1], 0, 4) ? OUTSIDE : ALLOWED, EDGES, EDGES);
        ask(state, "8 lane", (x, a) -> x.lane(a[0], a[1]), (s, a) -> !within(a[0], 0, s.lanes - 1) ? UNKNOWN
                : !within(a[1], 0, 4) ? OUTSIDE : ALLOWED, EDGES, EDGES);
        ask(state, "9 falls", (x, a) -> x.falls(a[0], a[1]), RefusalsTest::noStrike, EDGES, EDGES);
    }

    private static void whatIsDone(State state) {
        ask(state, "10 strike", (x, a) -> x.strike(a[0], a[1]), RefusalsTest::noStrike, EDGES, EDGES);
        ask(state, "11 set", (x, a) -> x.set(a[0]), (s, a) -> !s.hasPin(a[0]) ? UNKNOWN
                : s.stands.charAt(a[0]) == '1' ? STATE : ALLOWED, EDGES);
        ask(state, "12 all", (x, a) -> x.all(), RefusalsTest::noGreen);
        ask(state, "13 ball", (x, a) -> x.ball(a[0]), (s, a) -> !within(a[0], 1, 3) ? OUTSIDE : noGreen(s, a), EDGES);
        ask(state, "14 rule", (x, a) -> x.rule(), RefusalsTest::noGreen);
        ask(state, "15 change", (x, a) -> x.change(a[0], a[1]), (s, a) -> !s.hasPin(a[0]) ? UNKNOWN
                : !within(a[1], 0, 4) ? OUTSIDE : ALLOWED, EDGES, EDGES);
    }

    private static void whatWouldBe(State state) {
        ask(state, "16 number", (x, a) -> x.number(), RefusalsTest::noGreen);
        ask(state, "17 wins", (x, a) -> x.wins(), RefusalsTest::noGreen);
        ask(state, "18 best", (x, a) -> x.best(a[0]), (s, a) -> !within(a[0], 0, 3) ? OUTSIDE : noGreen(s, a), EDGES);
        ask(state, "19 row", (x, a) -> x.row(a[0]), (s, a) -> !within(a[0], 0, 40) ? OUTSIDE : noGreen(s, a), EDGES);
        ask(state, "20 period", (x, a) -> x.period(a[0]), (s, a) -> !within(a[0], 0, 1) ? OUTSIDE : noGreen(s, a), EDGES);
        ask(state, "21 likely", (x, a) -> x.likely(), RefusalsTest::noGreen);
    }

    private static void whatIsSeen(State state) {
        ask(state, "22 see", (x, a) -> x.see(a[0], a[1], a[2]), (s, a) -> !s.hasPin(a[0]) ? UNKNOWN
                : !within(a[1], 0, 1) || !within(a[2], 0, 3) ? OUTSIDE
                : s.seen == 6 ? FULL : ALLOWED, SHORT_EDGES, SHORT_EDGES, SHORT_EDGES);
        ask(state, "23 forget", (x, a) -> x.forget(), (s, a) -> ALLOWED);
        ask(state, "24 games", (x, a) -> x.games(a[0], a[1], a[2]), (s, a) -> !within(a[0], 1, 40)
                || !within(a[1], 0, MAX) || !within(a[2], 0, 2) ? OUTSIDE : noGreen(s, a),
                SHORT_EDGES, SHORT_EDGES, SHORT_EDGES);
    }

    private static void whatIsToldOfAll(State state) {
        ask(state, "25 image", (x, a) -> x.image(), RefusalsTest::noGreen);
        ask(state, "26 restore", (x, a) -> x.restore(), (s, a) -> s.isKept ? ALLOWED : STATE);
        ask(state, "27 count", (x, a) -> x.count(a[0]), (s, a) -> !within(a[0], 0, 9) ? OUTSIDE : ALLOWED, EDGES);
    }

    private static int noGreen(State state, int[] a) {
        return state.pins == 0 ? STATE : ALLOWED;
    }

    private static int noStrike(State state, int[] a) {
        if (!state.hasPin(a[0])) {
            return UNKNOWN;
        }
        if (!within(a[1], 1, 3)) {
            return OUTSIDE;
        }
        return state.isStrike(a[0], a[1]) ? ALLOWED : STATE;
    }

    private static boolean within(int number, int least, int most) {
        return number >= least && number <= most;
    }

    // ---- how they are asked

    private static void ask(State state, String promise, Call call, Told told, int[]... edges) {
        List<int[]> refused = new ArrayList<>();
        for (int[] a : allOf(edges)) {
            if (told.first(state, a) == ALLOWED) {
                asked++;
                long got = call.on(state.maker.make(), a);
                if (got < NONE) {
                    complain(state, promise, a, got, "an answer");
                }
            } else {
                refused.add(a);
            }
        }
        for (int from = 0; from < refused.size(); from += MOST_REFUSED) {
            int to = Math.min(refused.size(), from + MOST_REFUSED);
            refuse(state, promise, call, told, refused.subList(from, to));
        }
    }

    private static void refuse(State state, String promise, Call call, Told told, List<int[]> refused) {
        PinLanes x = state.maker.make();
        for (int[] a : refused) {
            asked++;
            refusedInAll++;
            long got = call.on(x, a);
            if (got != told.first(state, a)) {
                complain(state, promise, a, got, "" + told.first(state, a));
            }
        }
        if (!look(x).equals(look(state.maker.make()))) {
            complain(state, promise, new int[0], 0, "that refused calls change nothing");
        }
    }

    private static List<int[]> allOf(int[]... edges) {
        List<int[]> all = new ArrayList<>();
        all.add(new int[0]);
        for (int[] row : edges) {
            List<int[]> longer = new ArrayList<>();
            for (int[] a : all) {
                for (int edge : row) {
                    int[] b = java.util.Arrays.copyOf(a, a.length + 1);
                    b[a.length] = edge;
                    longer.add(b);
                }
            }
            all = longer;
        }
        return all;
    }

    /** All that can be told of an object, of its image, and of what its page would be. */
    private static String look(PinLanes x) {
        StringBuilder told = new StringBuilder();
        tell(x, told);
        told.append(" restore ").append(x.restore());
        tell(x, told);
        told.append(" green ").append(x.green());
        tell(x, told);
        told.append(" restore ").append(x.restore());
        told.append(" letter ").append(x.letter('p'));
        told.append(" blank ").append(x.blank());
        return told.toString();
    }

    private static void tell(PinLanes x, StringBuilder told) {
        for (int pin = 0; pin < x.count(0); pin++) {
            for (int what = 0; what <= 5; what++) {
                told.append(' ').append(x.pin(pin, what));
            }
        }
        for (int what = 0; what <= 9; what++) {
            told.append(' ').append(x.count(what));
        }
        told.append(" fault ").append(x.fault());
        told.append(" games ").append(x.games(3, 5, 2));
        told.append(" digest ").append(x.digest());
    }

    private static void due(State state, String call, long got, long want) {
        asked++;
        if (got != want) {
            complain(state, call, new int[0], got, "" + want);
        }
    }

    private static void complain(State state, String call, int[] a, long got, String want) {
        wrong++;
        System.out.println(state.name + ": " + call + java.util.Arrays.toString(a) + " answered " + got + ", due is " + want);
    }
}
