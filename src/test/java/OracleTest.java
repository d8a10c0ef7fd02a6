import java.util.ArrayList;
import java.util.HashMap;
import java.util.List;
import java.util.Map;
import java.util.Random;
import java.util.TreeSet;

/** Long runs of drawn calls, each answer beside that of a slow model that follows the document word by word. */
public final class OracleTest {
    private static final int RUNS = 400, CALLS = 512;
    private static final int NONE = -1, UNKNOWN = -101, OUTSIDE = -102, STATE = -103, FULL = -104;

    public static void main(String[] args) {
        int wrong = 0;
        for (int run = 0; run < RUNS && wrong < 20; run++) {
            wrong += run(run);
        }
        System.out.println("OracleTest: " + RUNS + " runs of " + CALLS + " calls, " + wrong + " of them wrong");
        if (wrong != 0) {
            System.exit(1);
        }
    }

    private static int run(int seed) {
        Random random = new Random(seed);
        PinLanes x = new PinLanes();
        Model model = new Model();
        List<String> calls = new ArrayList<>();
        List<Integer> toWrite = new ArrayList<>();
        int emptyFor = seed % 7 == 0 ? 60 : 0;
        for (int i = 0; i < CALLS; i++) {
            String name;
            int[] a;
            if (toWrite.isEmpty() && i >= emptyFor && (model.pins.isEmpty() ? random.nextInt(3) == 0 : random.nextInt(60) == 0)) {
                writeGreen(random, toWrite);
            }
            if (!toWrite.isEmpty()) {
                int code = toWrite.remove(0);
                name = code == -1 ? "blank" : code == -2 ? "green" : code == -3 ? "fault" : "letter";
                a = new int[] {code};
            } else {
                name = NAMES[random.nextInt(NAMES.length)];
                a = new int[] {argument(random, name, 0), argument(random, name, 1), argument(random, name, 2)};
            }
            long got = askClass(x, name, a);
            long want = askModel(model, name, a);
            calls.add(name + java.util.Arrays.toString(a) + " = " + got);
            if (got != want) {
                System.out.println("run " + seed + ", call " + i + ": due is " + want + " behind " + calls);
                return 1;
            }
        }
        return 0;
    }

    private static void writeGreen(Random random, List<Integer> toWrite) {
        toWrite.add(-1);
        StringBuilder text = new StringBuilder();
        int lanes = 1 + random.nextInt(3);
        int left = 9;
        String kinds = random.nextInt(3) == 0 ? "pppppnd" : random.nextInt(3) == 0 ? "nd" : "pnsfd";
        for (int lane = 0; lane < lanes; lane++) {
            int most = Math.min(6, left - (lanes - 1 - lane));
            int pins = random.nextInt(3) == 0 ? most : 1 + random.nextInt(most);
            left -= pins;
            text.append(lane == 0 ? "" : ",");
            for (int i = 0; i < pins; i++) {
                text.append(kinds.charAt(random.nextInt(kinds.length())));
            }
        }
        text.append(';').append(1 + random.nextInt(3)).append("wl".charAt(random.nextInt(2)));
        if (random.nextInt(4) == 0) {
            text.setCharAt(random.nextInt(text.length()), ",;pnsfd0123wlx".charAt(random.nextInt(14)));
        }
        if (random.nextInt(8) == 0) {
            text.insert(random.nextInt(text.length()), ",;pnsfd0123wlx".charAt(random.nextInt(14)));
        }
        for (int i = 0; i < text.length(); i++) {
            toWrite.add((int) text.charAt(i));
            if (random.nextInt(10) == 0) {
                toWrite.add(-3);
            }
        }
        toWrite.add(-3);
        toWrite.add(-2);
    }

    private static final String[] NAMES = {
        "letter", "blank", "fault", "green", "pin", "pin", "as", "lane", "lane", "falls", "falls", "strike", "strike",
        "strike", "strike", "strike", "set", "set", "all", "ball", "rule", "change", "change", "number", "wins", "best",
        "best", "row", "period", "likely", "see", "see", "forget", "games", "games", "image", "restore", "count",
        "digest", "digest",
    };

    private static int argument(Random random, String name, int place) {
        int[] edges = {Integer.MIN_VALUE, Integer.MAX_VALUE, -1, 0, 41, 127, 10, 7};
        if (random.nextInt(25) == 0) {
            return edges[random.nextInt(edges.length)];
        }
        switch (name) {
            case "letter": return random.nextInt(10) == 0 ? random.nextInt(130) : "pnsfd,;123wl".charAt(random.nextInt(12));
            case "pin": return random.nextInt(place == 0 ? 10 : 7);
            case "as": return random.nextInt(place == 0 ? 10 : 6);
            case "lane": return random.nextInt(place == 0 ? 4 : 6);
            case "falls": return place == 0 ? random.nextInt(10) : 1 + random.nextInt(3);
            case "strike": return place == 0 ? random.nextInt(10) : random.nextInt(3) > 0 ? 1 : 1 + random.nextInt(4);
            case "change": return random.nextInt(place == 0 ? 9 : 5);
            case "set": return random.nextInt(9);
            case "row": return random.nextInt(42);
            case "see": return place == 0 ? random.nextInt(3) : place == 1 ? random.nextInt(2) : random.nextInt(4);
            case "games": return place == 0 ? 1 + random.nextInt(40) : place == 1 ? random.nextInt() >>> 1 : random.nextInt(3);
            case "count": return random.nextInt(11);
            default: return random.nextInt(5);
        }
    }

    private static long askClass(PinLanes x, String name, int[] a) {
        switch (name) {
            case "letter": return x.letter(a[0]);
            case "blank": return x.blank();
            case "fault": return x.fault();
            case "green": return x.green();
            case "pin": return x.pin(a[0], a[1]);
            case "as": return x.as(a[0], a[1]);
            case "lane": return x.lane(a[0], a[1]);
            case "falls": return x.falls(a[0], a[1]);
            case "strike": return x.strike(a[0], a[1]);
            case "set": return x.set(a[0]);
            case "all": return x.all();
            case "ball": return x.ball(a[0]);
            case "rule": return x.rule();
            case "change": return x.change(a[0], a[1]);
            case "number": return x.number();
            case "wins": return x.wins();
            case "best": return x.best(a[0]);
            case "row": return x.row(a[0]);
            case "period": return x.period(a[0]);
            case "likely": return x.likely();
            case "see": return x.see(a[0], a[1], a[2]);
            case "forget": return x.forget();
            case "games": return x.games(a[0], a[1], a[2]);
            case "image": return x.image();
            case "restore": return x.restore();
            case "count": return x.count(a[0]);
            default: return x.digest();
        }
    }

    private static long askModel(Model m, String name, int[] a) {
        switch (name) {
            case "letter": return m.letter(a[0]);
            case "blank": return m.blank();
            case "fault": return m.fault();
            case "green": return m.green();
            case "pin": return m.pin(a[0], a[1]);
            case "as": return m.as(a[0], a[1]);
            case "lane": return m.lane(a[0], a[1]);
            case "falls": return m.falls(a[0], a[1]);
            case "strike": return m.strike(a[0], a[1]);
            case "set": return m.set(a[0]);
            case "all": return m.all();
            case "ball": return m.ball(a[0]);
            case "rule": return m.rule();
            case "change": return m.change(a[0], a[1]);
            case "number": return m.number();
            case "wins": return m.wins();
            case "best": return m.best(a[0]);
            case "row": return m.row(a[0]);
            case "period": return m.period(a[0]);
            case "likely": return m.likely();
            case "see": return m.see(a[0], a[1], a[2]);
            case "forget": return m.forget();
            case "games": return m.games(a[0], a[1], a[2]);
            case "image": return m.image();
            case "restore": return m.restore();
            case "count": return m.count(a[0]);
            default: return m.digest();
        }
    }

    /** A pin that never moves; what stands is a string of '1' and '0' beside the list of these. */
    private record Pin(char kind, int lane) {
        boolean leans() {
            return kind == 'n' || kind == 'd';
        }

        boolean soft() {
            return kind != 's' && kind != 'f';
        }
    }

    private record Strike(int first, int many) {
    }

    private record Sight(int pin, int way, int fell) {
    }

    private record Image(List<Pin> pins, String standing, int ball, boolean lost, int struck, List<Sight> seen) {
    }

    private static final class Model {
        private static final String KINDS = "pnsfd";
        String page = "";
        List<Pin> pins = new ArrayList<>();
        String standing = "";
        int ball = 0;
        boolean lost = false;
        int struck = 0;
        int reads = 0;
        List<Sight> seen = new ArrayList<>();
        Image image = null;

        long letter(int code) {
            if (code < 1 || code > 126) return OUTSIDE;
            if (page.length() == 16) return FULL;
            page += (char) code;
            return page.length();
        }

        long blank() {
            int had = page.length();
            page = "";
            return had;
        }

        static boolean isGreen(String text) {
            return text.matches("[pnsfd]{1,6}(,[pnsfd]{1,6}){0,2};[123][wl]")
                && text.replaceAll("[,;123wl]", "").length() <= 9;
        }

        long fault() {
            for (int place = 0; place < page.length(); place++) {
                boolean begins = false;
                for (String rest : new String[] {"", "w", "1w", ";1w", "p;1w"}) {
                    begins |= isGreen(page.substring(0, place + 1) + rest);
                }
                if (!begins) return place;
            }
            return page.length();
        }

        long green() {
            if (!isGreen(page)) return STATE;
            String[] parts = page.split(";");
            pins = new ArrayList<>();
            String[] lanes = parts[0].split(",");
            for (int lane = 0; lane < lanes.length; lane++) {
                for (char kind : lanes[lane].toCharArray()) pins.add(new Pin(kind, lane));
            }
            standing = "1".repeat(pins.size());
            ball = parts[1].charAt(0) - '0';
            lost = parts[1].charAt(1) == 'l';
            struck = 0;
            seen = new ArrayList<>();
            image = null;
            page = "";
            reads++;
            return pins.size();
        }

        /** What stands behind the strike, or null, if it is none. */
        static String behind(List<Pin> pins, String standing, int ball, Strike strike) {
            if (strike.many > ball) return null;
            TreeSet<Integer> falling = new TreeSet<>();
            for (int pin = strike.first; pin < strike.first + strike.many; pin++) {
                if (pin >= pins.size() || pins.get(pin).lane != pins.get(strike.first).lane) return null;
                if (standing.charAt(pin) == '0' || pins.get(pin).kind == 'f') return null;
                if (pins.get(pin).kind == 's' && strike.many > 1) return null;
                falling.add(pin);
            }
            boolean more = true;
            while (more) {
                TreeSet<Integer> next = new TreeSet<>(falling);
                for (int pin : falling) {
                    for (int other = 0; other < pins.size(); other++) {
                        boolean right = other == pin + 1 && pins.get(pin).leans();
                        boolean left = other == pin - 1 && pins.get(pin).kind == 'd';
                        boolean same = pins.get(other).lane == pins.get(pin).lane;
                        if ((right || left) && same && standing.charAt(other) == '1' && pins.get(other).soft()) next.add(other);
                    }
                }
                more = next.size() > falling.size();
                falling = next;
            }
            StringBuilder left = new StringBuilder(standing);
            for (int pin : falling) left.setCharAt(pin, '0');
            return left.toString();
        }

        List<Strike> strikes(String standing) {
            List<Strike> list = new ArrayList<>();
            for (int pin = 0; pin < pins.size(); pin++) {
                for (int many = 1; many <= 3; many++) {
                    if (behind(pins, standing, ball, new Strike(pin, many)) != null) list.add(new Strike(pin, many));
                }
            }
            return list;
        }

        static int bits(String before, String after) {
            int bits = 0;
            for (int i = 0; i < before.length(); i++) if (before.charAt(i) != after.charAt(i)) bits += 1 << i;
            return bits;
        }

        boolean unknown(int pin) {
            return pin < 0 || pin >= pins.size();
        }

        long pin(int pin, int what) {
            if (unknown(pin)) return UNKNOWN;
            if (what == 0) return KINDS.indexOf(pins.get(pin).kind);
            if (what == 1) return pins.get(pin).lane;
            if (what == 2) return standing.charAt(pin) - '0';
            if (what == 3) return Math.max(0, falls(pin, 1));
            if (what == 4) {
                int sorts = 0;
                for (int kind : sorts(pin)) sorts += 1 << kind;
                return sorts;
            }
            if (what == 5) return way(sorts(pin));
            return OUTSIDE;
        }

        static int fell(int kind, int way) {
            List<Pin> three = List.of(new Pin('p', 0), new Pin(KINDS.charAt(kind), 0), new Pin('p', 0));
            String left = behind(three, "111", 3, new Strike(1, 1 + way));
            return left == null ? 0 : Integer.bitCount(bits("111", left));
        }

        List<Integer> sorts(int pin) {
            List<Integer> sorts = new ArrayList<>();
            for (int kind = 0; kind < 5; kind++) {
                boolean can = true;
                for (Sight sight : seen) can &= sight.pin != pin || fell(kind, sight.way) == sight.fell;
                if (can) sorts.add(kind);
            }
            return sorts;
        }

        static long way(List<Integer> sorts) {
            if (sorts.isEmpty()) return NONE;
            int[] worst = new int[2];
            for (int way = 0; way < 2; way++) {
                int[] left = new int[4];
                for (int kind : sorts) left[fell(kind, way)]++;
                for (int many : left) worst[way] = Math.max(worst[way], many);
            }
            return worst[0] <= worst[1] ? 0 : 1;
        }

        long as(int pin, int kind) {
            if (unknown(pin)) return UNKNOWN;
            if (kind < 0 || kind > 4) return OUTSIDE;
            char is = pins.get(pin).kind;
            String names = is == 'd' ? "pnd" : "p" + is;
            return names.indexOf(KINDS.charAt(kind)) >= 0 ? pin : NONE;
        }

        int lanes() {
            return pins.isEmpty() ? 0 : pins.get(pins.size() - 1).lane + 1;
        }

        String onlyLane(int lane) {
            StringBuilder text = new StringBuilder();
            for (int pin = 0; pin < pins.size(); pin++) text.append(pins.get(pin).lane == lane ? standing.charAt(pin) : '0');
            return text.toString();
        }

        static int mex(TreeSet<Integer> numbers) {
            int number = 0;
            while (numbers.contains(number)) number++;
            return number;
        }

        int numberOf(String standing, Map<String, Integer> known) {
            if (known.containsKey(standing)) return known.get(standing);
            TreeSet<Integer> numbers = new TreeSet<>();
            for (Strike strike : strikes(standing)) numbers.add(numberOf(behind(pins, standing, ball, strike), known));
            known.put(standing, mex(numbers));
            return mex(numbers);
        }

        long lane(int lane, int what) {
            if (lane < 0 || lane >= lanes()) return UNKNOWN;
            if (what < 0 || what > 4) return OUTSIDE;
            long first = -1, many = 0;
            for (int pin = 0; pin < pins.size(); pin++) {
                if (pins.get(pin).lane == lane) {
                    if (first < 0) first = pin;
                    many++;
                }
            }
            if (what == 0) return many;
            if (what == 1) return first;
            if (what == 2) return onlyLane(lane).replace("0", "").length();
            int number = numberOf(onlyLane(lane), new HashMap<>());
            if (what == 3) return number;
            for (int row = 0; row <= 40; row++) if (rowOf(row) == number) return row;
            return NONE;
        }

        long falls(int pin, int many) {
            if (unknown(pin)) return UNKNOWN;
            if (many < 1 || many > 3) return OUTSIDE;
            String left = behind(pins, standing, ball, new Strike(pin, many));
            return left == null ? STATE : bits(standing, left);
        }

        long strike(int pin, int many) {
            long bits = falls(pin, many);
            if (bits < 0) return bits;
            if (struck == 999) return FULL;
            standing = behind(pins, standing, ball, new Strike(pin, many));
            struck++;
            return Long.bitCount(bits);
        }

        long set(int pin) {
            if (unknown(pin)) return UNKNOWN;
            if (standing.charAt(pin) == '1') return STATE;
            standing = standing.substring(0, pin) + "1" + standing.substring(pin + 1);
            return count(2);
        }

        long all() {
            if (pins.isEmpty()) return STATE;
            long had = pins.size() - count(2);
            standing = "1".repeat(pins.size());
            return had;
        }

        long ball(int other) {
            if (other < 1 || other > 3) return OUTSIDE;
            if (pins.isEmpty()) return STATE;
            int was = ball;
            ball = other;
            return was;
        }

        long rule() {
            if (pins.isEmpty()) return STATE;
            lost = !lost;
            return lost ? 0 : 1;
        }

        long change(int pin, int kind) {
            if (unknown(pin)) return UNKNOWN;
            if (kind < 0 || kind > 4) return OUTSIDE;
            Pin was = pins.get(pin);
            pins = new ArrayList<>(pins);
            pins.set(pin, new Pin(KINDS.charAt(kind), was.lane));
            return KINDS.indexOf(was.kind);
        }

        long number() {
            if (pins.isEmpty()) return STATE;
            long number = 0;
            for (int lane = 0; lane < lanes(); lane++) number ^= lane(lane, 3);
            return number;
        }

        boolean winsFrom(String standing, Map<String, Boolean> known) {
            if (known.containsKey(standing)) return known.get(standing);
            List<Strike> strikes = strikes(standing);
            boolean wins = strikes.isEmpty() && lost;
            for (Strike strike : strikes) wins |= !winsFrom(behind(pins, standing, ball, strike), known);
            known.put(standing, wins);
            return wins;
        }

        long wins() {
            if (pins.isEmpty()) return STATE;
            return winsFrom(standing, new HashMap<>()) ? 1 : 0;
        }

        int length(String standing, boolean longest, Map<String, Integer> known) {
            if (known.containsKey(standing)) return known.get(standing);
            int best = -1;
            for (Strike strike : strikes(standing)) {
                int length = 1 + length(behind(pins, standing, ball, strike), longest, known);
                best = best < 0 ? length : longest ? Math.max(best, length) : Math.min(best, length);
            }
            known.put(standing, Math.max(best, 0));
            return Math.max(best, 0);
        }

        long best(int what) {
            if (what < 0 || what > 3) return OUTSIDE;
            if (pins.isEmpty()) return STATE;
            if (what >= 2) return length(standing, what == 3, new HashMap<>());
            TreeSet<Integer> good = new TreeSet<>();
            Map<String, Boolean> known = new HashMap<>();
            for (Strike strike : strikes(standing)) {
                if (!winsFrom(behind(pins, standing, ball, strike), known)) good.add(10 * strike.first + strike.many);
            }
            return what == 1 ? good.size() : good.isEmpty() ? NONE : good.first();
        }

        private final Map<Integer, int[]> rows = new HashMap<>();

        int rowOf(int many) {
            if (!rows.containsKey(ball)) {
                int[] numbers = new int[41];
                for (int row = 1; row <= 40; row++) {
                    TreeSet<Integer> left = new TreeSet<>();
                    for (int first = 0; first < row; first++) {
                        for (int last = first; last < row && last < first + ball; last++) {
                            left.add(numbers[first] ^ numbers[row - 1 - last]);
                        }
                    }
                    numbers[row] = mex(left);
                }
                rows.put(ball, numbers);
            }
            return rows.get(ball)[many];
        }

        long row(int many) {
            if (many < 0 || many > 40) return OUTSIDE;
            return pins.isEmpty() ? STATE : rowOf(many);
        }

        long period(int what) {
            if (what < 0 || what > 1) return OUTSIDE;
            if (pins.isEmpty()) return STATE;
            for (int p = 1; p <= 20; p++) {
                for (int from = 0; from <= 20; from++) {
                    boolean same = true;
                    for (int n = from; n + p <= 40; n++) same &= rowOf(n) == rowOf(n + p);
                    if (same) return what == 0 ? p : from;
                }
            }
            return NONE;
        }

        long likelyFrom(String standing, Map<String, Long> known) {
            if (known.containsKey(standing)) return known.get(standing);
            List<Strike> strikes = strikes(standing);
            long sum = 0;
            for (Strike strike : strikes) sum += 1000000 - likelyFrom(behind(pins, standing, ball, strike), known);
            long likely = strikes.isEmpty() ? (lost ? 1000000 : 0) : sum / strikes.size();
            known.put(standing, likely);
            return likely;
        }

        long likely() {
            return pins.isEmpty() ? STATE : likelyFrom(standing, new HashMap<>());
        }

        long see(int pin, int way, int fell) {
            if (unknown(pin)) return UNKNOWN;
            if (way < 0 || way > 1 || fell < 0 || fell > 3) return OUTSIDE;
            if (seen.size() == 6) return FULL;
            seen.add(new Sight(pin, way, fell));
            return seen.size();
        }

        long forget() {
            int had = seen.size();
            seen.clear();
            return had;
        }

        long games(int times, int seed, int what) {
            if (times < 1 || times > 40 || seed < 0 || what < 0 || what > 2) return OUTSIDE;
            if (pins.isEmpty()) return STATE;
            long next = seed, won = 0, fell = 0;
            for (int game = 0; game < times; game++) {
                String left = standing;
                boolean beginnerIsNext = true;
                while (!strikes(left).isEmpty()) {
                    next = java.math.BigInteger.valueOf(1103515245).multiply(java.math.BigInteger.valueOf(next))
                        .add(java.math.BigInteger.valueOf(12345)).mod(java.math.BigInteger.TWO.pow(31)).longValue();
                    List<Strike> strikes = strikes(left);
                    String after = behind(pins, left, ball, strikes.get((int) (next / 65536 % strikes.size())));
                    fell += Integer.bitCount(bits(left, after));
                    left = after;
                    beginnerIsNext = !beginnerIsNext;
                }
                boolean beginnerWasLast = !beginnerIsNext;
                if (beginnerWasLast != lost) won++;
            }
            return what == 0 ? won : what == 1 ? fell : next;
        }

        long image() {
            if (pins.isEmpty()) return STATE;
            image = new Image(new ArrayList<>(pins), standing, ball, lost, struck, new ArrayList<>(seen));
            return struck;
        }

        long restore() {
            if (image == null) return STATE;
            pins = new ArrayList<>(image.pins);
            standing = image.standing;
            ball = image.ball;
            lost = image.lost;
            struck = image.struck;
            seen = new ArrayList<>(image.seen);
            return struck;
        }

        long count(int what) {
            long[] told = {
                pins.size(), lanes(), standing.replace("0", "").length(), ball, lost ? 1 : 0,
                strikes(standing).size(), struck, seen.size(), page.length(), reads,
            };
            return what < 0 || what > 9 ? OUTSIDE : told[what];
        }

        long digest() {
            List<Long> told = new ArrayList<>();
            for (int pin = 0; pin < pins.size(); pin++) for (int what = 0; what < 6; what++) told.add(pin(pin, what));
            for (int lane = 0; lane < lanes(); lane++) for (int what = 0; what < 5; what++) told.add(lane(lane, what));
            if (!pins.isEmpty()) {
                told.addAll(List.of(number(), wins(), best(0), best(1), best(2), best(3), row(20), period(0), period(1), likely()));
            }
            for (char letter : page.toCharArray()) told.add((long) letter);
            for (int what = 0; what < 10; what++) told.add(count(what));
            long h = 1307;
            for (long number : told) h = 31 * h + number;
            return h;
        }
    }
}
