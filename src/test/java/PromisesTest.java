/** For each promise: ordinary inputs, the edges that the document names, and wrong inputs; answers found by hand. */
public final class PromisesTest {
    private static int asked = 0;
    private static int wrong = 0;
    private static String promise = "";

    private static void due(String call, long got, long want) {
        asked++;
        if (got != want) {
            wrong++;
            System.out.println(promise + ": " + call + " answered " + got + ", due is " + want);
        }
    }

    private static PinLanes written(String text) {
        PinLanes x = new PinLanes();
        write(x, text);
        return x;
    }

    private static void write(PinLanes x, String text) {
        for (int i = 0; i < text.length(); i++) {
            x.letter(text.charAt(i));
        }
    }

    private static PinLanes green(String text) {
        PinLanes x = written(text);
        due(text + " green()", x.green() > 0 ? 1 : 0, 1);
        return x;
    }

    private static final int MIN = Integer.MIN_VALUE, MAX = Integer.MAX_VALUE;
    private static final int NONE = -1, UNKNOWN = -101, OUTSIDE = -102, STATE = -103, FULL = -104;

    public static void main(String[] args) {
        newObject();
        letter();
        blank();
        fault();
        greenCall();
        pin();
        as();
        lane();
        falls();
        strike();
        set();
        all();
        ball();
        rule();
        change();
        number();
        wins();
        best();
        row();
        period();
        likely();
        see();
        forget();
        games();
        imageAndRestore();
        count();
        digest();
        System.out.println("PromisesTest: " + (asked - wrong) + " of " + asked + " answers are as due");
        if (wrong != 0) {
            System.exit(1);
        }
    }

    private static void newObject() {
        promise = "1 new";
        PinLanes x = new PinLanes();
        for (int what = 0; what <= 9; what++) {
            due("count(" + what + ")", x.count(what), 0);
        }
        due("pin(0, 0)", x.pin(0, 0), UNKNOWN);
        due("lane(0, 0)", x.lane(0, 0), UNKNOWN);
        due("as(0, 0)", x.as(0, 0), UNKNOWN);
        due("falls(0, 1)", x.falls(0, 1), UNKNOWN);
        due("strike(0, 1)", x.strike(0, 1), UNKNOWN);
        due("set(0)", x.set(0), UNKNOWN);
        due("change(0, 0)", x.change(0, 0), UNKNOWN);
        due("see(0, 0, 0)", x.see(0, 0, 0), UNKNOWN);
        due("all()", x.all(), STATE);
        due("ball(1)", x.ball(1), STATE);
        due("ball(0)", x.ball(0), OUTSIDE);
        due("rule()", x.rule(), STATE);
        due("number()", x.number(), STATE);
        due("wins()", x.wins(), STATE);
        due("best(0)", x.best(0), STATE);
        due("best(4)", x.best(4), OUTSIDE);
        due("row(0)", x.row(0), STATE);
        due("row(41)", x.row(41), OUTSIDE);
        due("period(0)", x.period(0), STATE);
        due("period(2)", x.period(2), OUTSIDE);
        due("likely()", x.likely(), STATE);
        due("games(1, 0, 0)", x.games(1, 0, 0), STATE);
        due("games(1, 0, 3)", x.games(1, 0, 3), OUTSIDE);
        due("image()", x.image(), STATE);
        due("restore()", x.restore(), STATE);
        due("forget()", x.forget(), 0);
        due("green()", x.green(), STATE);
        due("fault()", x.fault(), 0);
        due("blank()", x.blank(), 0);
        due("count(9)", x.count(9), 0);
    }

    private static void letter() {
        promise = "2 letter";
        PinLanes x = new PinLanes();
        for (int code : new int[] {0, -1, 127, 128, 256, MIN, MAX}) {
            due("letter(" + code + ")", x.letter(code), OUTSIDE);
        }
        due("letter(1)", x.letter(1), 1);
        due("letter(126)", x.letter(126), 2);
        for (int many = 3; many <= 16; many++) {
            due("letter(112)", x.letter(112), many);
        }
        due("letter(112), the 17th", x.letter(112), FULL);
        due("letter(0), the 17th", x.letter(0), OUTSIDE);
        due("count(8)", x.count(8), 16);
    }

    private static void blank() {
        promise = "3 blank";
        PinLanes x = written("pn");
        due("blank()", x.blank(), 2);
        due("blank()", x.blank(), 0);
        due("letter(112)", x.letter(112), 1);
        write(x, "pppppppppppppppp");
        due("blank(), full", x.blank(), 16);
        due("letter(112)", x.letter(112), 1);
        due("digest()", x.digest(), written("p").digest());
    }

    private static void fault() {
        promise = "4 fault";
        String[] texts = {
            "", "p", "pnsfd", "pnsfdp", "pnsfdpp", "x", ",", ";", "1", "P", "p,", "p,,", "p,;", "p;", "p;1", "p;0",
            "p;4", "p;1w", "p;1l", "p;1x", "p;1W", "p;1ww", "p;w", "p,n,s", "p,n,s,", "p,n,s;2l",
            "pppppp,ppp", "pppppp,pppp", "pppppp,ppp,", "pppppp,ppp;3w", "pppppp,pp,p", "pppppp,pp,pp", "pppppp,pp,",
            "ppp,ppp,ppp;1w", "ppp,ppp,pppp", "p;;", "p,n;1w,", "p;1w\n", "p n", "ppp,ppp,ppp;1wpp",
        };
        int[] places = {
            0, 1, 5, 6, 6, 0, 0, 0, 0, 0, 2, 2, 2, 2, 3, 2,
            2, 4, 4, 3, 3, 4, 2, 5, 5, 8,
            10, 10, 10, 13, 11, 11, 10,
            14, 11, 2, 6, 4, 1, 14,
        };
        due("texts", texts.length, places.length);
        for (int i = 0; i < texts.length; i++) {
            PinLanes x = written(texts[i]);
            due("\"" + texts[i] + "\" fault()", x.fault(), places[i]);
            due("\"" + texts[i] + "\" fault() again", x.fault(), places[i]);
            due("\"" + texts[i] + "\" count(8)", x.count(8), texts[i].length());
            due("\"" + texts[i] + "\" count(0)", x.count(0), 0);
        }
    }

    private static void greenCall() {
        promise = "5 green";
        for (String none : new String[] {"", "p", "p;", "p;1", "p;4w", "p,;1w", "p;1w ", "ppppppp;1w", "p,p,p,p;1w"}) {
            PinLanes x = written(none);
            due("\"" + none + "\" green()", x.green(), STATE);
            due("\"" + none + "\" count(8)", x.count(8), none.length());
            due("\"" + none + "\" count(9)", x.count(9), 0);
        }
        PinLanes x = written("pn,s,fd;2l");
        due("green()", x.green(), 5);
        due("count(8)", x.count(8), 0);
        due("count(9)", x.count(9), 1);
        due("green() of nothing", x.green(), STATE);
        due("count(9)", x.count(9), 1);
        due("strike(0, 1)", x.strike(0, 1), 1);
        due("see(0, 0, 1)", x.see(0, 0, 1), 1);
        due("image()", x.image(), 1);
        write(x, "dddddd,fff;3w");
        due("green()", x.green(), 9);
        due("count(1)", x.count(1), 2);
        due("count(2)", x.count(2), 9);
        due("count(3)", x.count(3), 3);
        due("count(4)", x.count(4), 0);
        due("count(6)", x.count(6), 0);
        due("count(7)", x.count(7), 0);
        due("count(9)", x.count(9), 2);
        due("restore()", x.restore(), STATE);
        write(x, "p;1x");
        due("green() of a wrong one", x.green(), STATE);
        due("count(0)", x.count(0), 9);
    }

    private static void pin() {
        promise = "6 pin";
        PinLanes x = green("pnsfd,dpp;3w");
        int[] kinds = {0, 1, 2, 3, 4, 4, 0, 0};
        int[] lanes = {0, 0, 0, 0, 0, 1, 1, 1};
        int[] alone = {1, 2, 4, 0, 16, 96, 64, 128};
        for (int pin = 0; pin < 8; pin++) {
            due("pin(" + pin + ", 0)", x.pin(pin, 0), kinds[pin]);
            due("pin(" + pin + ", 1)", x.pin(pin, 1), lanes[pin]);
            due("pin(" + pin + ", 2)", x.pin(pin, 2), 1);
            due("pin(" + pin + ", 3)", x.pin(pin, 3), alone[pin]);
            due("pin(" + pin + ", 4)", x.pin(pin, 4), 31);
            due("pin(" + pin + ", 5)", x.pin(pin, 5), 0);
        }
        due("strike(6, 1)", x.strike(6, 1), 1);
        due("pin(6, 2)", x.pin(6, 2), 0);
        due("pin(6, 3)", x.pin(6, 3), 0);
        due("pin(5, 3)", x.pin(5, 3), 32);
        due("pin(8, 0)", x.pin(8, 0), UNKNOWN);
        due("pin(8, 6)", x.pin(8, 6), UNKNOWN);
        due("pin(-1, 0)", x.pin(-1, 0), UNKNOWN);
        due("pin(MIN, 0)", x.pin(MIN, 0), UNKNOWN);
        due("pin(MAX, 0)", x.pin(MAX, 0), UNKNOWN);
        due("pin(7, 6)", x.pin(7, 6), OUTSIDE);
        due("pin(7, -1)", x.pin(7, -1), OUTSIDE);
        due("pin(7, MAX)", x.pin(7, MAX), OUTSIDE);
    }

    private static void as() {
        promise = "7 as";
        PinLanes x = green("pnsfd;1w");
        int[] also = {1, 3, 5, 9, 19};
        for (int pin = 0; pin < 5; pin++) {
            for (int kind = 0; kind < 5; kind++) {
                due("as(" + pin + ", " + kind + ")", x.as(pin, kind), (also[pin] >> kind & 1) == 1 ? pin : NONE);
            }
            due("as(" + pin + ", 5)", x.as(pin, 5), OUTSIDE);
            due("as(" + pin + ", -1)", x.as(pin, -1), OUTSIDE);
        }
        due("as(5, 0)", x.as(5, 0), UNKNOWN);
        due("as(5, 5)", x.as(5, 5), UNKNOWN);
        due("as(-1, 0)", x.as(-1, 0), UNKNOWN);
    }

    private static void lane() {
        promise = "8 lane";
        PinLanes x = green("pppp,nnn,f;1w");
        int[][] told = {{4, 0, 4, 0, 0}, {3, 4, 3, 3, NONE}, {1, 7, 1, 0, 0}};
        for (int lane = 0; lane < 3; lane++) {
            for (int what = 0; what < 5; what++) {
                due("lane(" + lane + ", " + what + ")", x.lane(lane, what), told[lane][what]);
            }
        }
        due("ball(2)", x.ball(2), 1);
        due("lane(0, 3)", x.lane(0, 3), 1);
        due("lane(0, 4)", x.lane(0, 4), 1);
        due("lane(1, 3)", x.lane(1, 3), 3);
        due("lane(1, 4)", x.lane(1, 4), 3);
        due("strike(1, 1)", x.strike(1, 1), 1);
        due("lane(0, 0)", x.lane(0, 0), 4);
        due("lane(0, 2)", x.lane(0, 2), 3);
        due("lane(0, 3)", x.lane(0, 3), 1 ^ 2);
        due("lane(0, 4)", x.lane(0, 4), 3);
        due("lane(0, 5)", x.lane(0, 5), OUTSIDE);
        due("lane(0, -1)", x.lane(0, -1), OUTSIDE);
        due("lane(3, 0)", x.lane(3, 0), UNKNOWN);
        due("lane(3, 5)", x.lane(3, 5), UNKNOWN);
        due("lane(-1, 0)", x.lane(-1, 0), UNKNOWN);
        due("lane(MIN, MIN)", x.lane(MIN, MIN), UNKNOWN);
    }

    private static void falls() {
        promise = "9 falls";
        PinLanes x = green("pnnsp,dd,d;3w");
        due("falls(0, 1)", x.falls(0, 1), 1);
        due("falls(1, 1)", x.falls(1, 1), 6);
        due("falls(0, 2)", x.falls(0, 2), 7);
        due("falls(0, 3)", x.falls(0, 3), 7);
        due("falls(1, 3), a stout one among them", x.falls(1, 3), STATE);
        due("falls(3, 1)", x.falls(3, 1), 8);
        due("falls(3, 2)", x.falls(3, 2), STATE);
        due("falls(4, 2), over the lane's end", x.falls(4, 2), STATE);
        due("falls(5, 1)", x.falls(5, 1), 96);
        due("falls(6, 1)", x.falls(6, 1), 96);
        due("falls(6, 2), over the lane's end", x.falls(6, 2), STATE);
        due("falls(7, 1)", x.falls(7, 1), 128);
        due("falls(7, 2), behind the last", x.falls(7, 2), STATE);
        due("falls(0, 0)", x.falls(0, 0), OUTSIDE);
        due("falls(0, 4)", x.falls(0, 4), OUTSIDE);
        due("falls(8, 1)", x.falls(8, 1), UNKNOWN);
        due("falls(8, 4)", x.falls(8, 4), UNKNOWN);
        due("falls(-1, 1)", x.falls(-1, 1), UNKNOWN);
        due("falls(0, MIN)", x.falls(0, MIN), OUTSIDE);
        due("ball(2)", x.ball(2), 3);
        due("falls(0, 3), above the ball", x.falls(0, 3), STATE);
        due("count(2), nothing fell", x.count(2), 8);
        due("strike(0, 1)", x.strike(0, 1), 1);
        due("falls(0, 1), fallen", x.falls(0, 1), STATE);
        due("falls(0, 2), one fallen", x.falls(0, 2), STATE);
        x = green("pddnpf,ndp;2w");
        due("falls(3, 1), to the right alone", x.falls(3, 1), 8 | 16);
        due("falls(2, 1), both ways and on", x.falls(2, 1), 31);
        due("falls(6, 1)", x.falls(6, 1), 64 | 128 | 256);
        due("falls(8, 1)", x.falls(8, 1), 256);
        due("falls(5, 1), fixed", x.falls(5, 1), STATE);
        due("falls(4, 2), one fixed", x.falls(4, 2), STATE);
        due("strike(4, 1)", x.strike(4, 1), 1);
        due("falls(2, 1), up to a fallen one", x.falls(2, 1), 15);
    }

    private static void strike() {
        promise = "10 strike";
        PinLanes x = green("pndp,ps;2w");
        due("strike(0, 3)", x.strike(0, 3), STATE);
        due("strike(0, 4)", x.strike(0, 4), OUTSIDE);
        due("strike(6, 4)", x.strike(6, 4), UNKNOWN);
        due("strike(4, 2)", x.strike(4, 2), STATE);
        due("count(6)", x.count(6), 0);
        due("strike(1, 1)", x.strike(1, 1), 3);
        due("count(2)", x.count(2), 3);
        due("count(6)", x.count(6), 1);
        due("strike(1, 1)", x.strike(1, 1), STATE);
        due("strike(0, 2)", x.strike(0, 2), STATE);
        due("strike(5, 1)", x.strike(5, 1), 1);
        due("strike(0, 1)", x.strike(0, 1), 1);
        due("strike(4, 1)", x.strike(4, 1), 1);
        due("count(2)", x.count(2), 0);
        due("count(6)", x.count(6), 4);
        for (int i = 5; i <= 200; i++) {
            due("set(0)", x.set(0), 1);
            due("strike(0, 1)", x.strike(0, 1), 1);
        }
        due("count(6)", x.count(6), 200);
    }

    private static void set() {
        promise = "11 set";
        PinLanes x = green("ndp;1w");
        due("set(0)", x.set(0), STATE);
        due("set(3)", x.set(3), UNKNOWN);
        due("set(-1)", x.set(-1), UNKNOWN);
        due("strike(0, 1)", x.strike(0, 1), 3);
        due("set(1)", x.set(1), 1);
        due("set(1)", x.set(1), STATE);
        due("set(2)", x.set(2), 2);
        due("set(0)", x.set(0), 3);
        due("count(6)", x.count(6), 1);
        due("set(MAX)", x.set(MAX), UNKNOWN);
    }

    private static void all() {
        promise = "12 all";
        PinLanes x = green("ndp,p;1w");
        due("all()", x.all(), 0);
        due("strike(0, 1)", x.strike(0, 1), 3);
        due("see(0, 0, 1)", x.see(0, 0, 1), 1);
        due("all()", x.all(), 3);
        due("count(2)", x.count(2), 4);
        due("count(6)", x.count(6), 1);
        due("count(7)", x.count(7), 1);
        due("all()", x.all(), 0);
    }

    private static void ball() {
        promise = "13 ball";
        PinLanes x = green("ppp;1w");
        for (int wrongBall : new int[] {0, 4, -1, MIN, MAX}) {
            due("ball(" + wrongBall + ")", x.ball(wrongBall), OUTSIDE);
        }
        due("count(5)", x.count(5), 3);
        due("ball(3)", x.ball(3), 1);
        due("count(5)", x.count(5), 6);
        due("falls(0, 3)", x.falls(0, 3), 7);
        due("ball(2)", x.ball(2), 3);
        due("count(5)", x.count(5), 5);
        due("ball(2)", x.ball(2), 2);
        due("count(3)", x.count(3), 2);
    }

    private static void rule() {
        promise = "14 rule";
        PinLanes x = green("p;1w");
        due("wins()", x.wins(), 1);
        due("rule()", x.rule(), 0);
        due("wins()", x.wins(), 0);
        due("count(4)", x.count(4), 1);
        due("rule()", x.rule(), 1);
        due("wins()", x.wins(), 1);
        due("count(4)", x.count(4), 0);
        due("rule(), lost", green("p;1l").rule(), 1);
    }

    private static void change() {
        promise = "15 change";
        PinLanes x = green("ppp;1w");
        due("change(1, 4)", x.change(1, 4), 0);
        due("falls(1, 1)", x.falls(1, 1), 7);
        due("change(1, 3)", x.change(1, 3), 4);
        due("falls(1, 1)", x.falls(1, 1), STATE);
        due("count(5)", x.count(5), 2);
        due("change(1, 3)", x.change(1, 3), 3);
        due("change(1, 5)", x.change(1, 5), OUTSIDE);
        due("change(1, -1)", x.change(1, -1), OUTSIDE);
        due("change(3, 5)", x.change(3, 5), UNKNOWN);
        due("change(-1, 0)", x.change(-1, 0), UNKNOWN);
        due("pin(1, 0)", x.pin(1, 0), 3);
        due("strike(0, 1)", x.strike(0, 1), 1);
        due("change(0, 2), fallen", x.change(0, 2), 0);
        due("pin(0, 2), it stays so", x.pin(0, 2), 0);
        due("number()", x.number(), 1);
        due("change(2, 3)", x.change(2, 3), 0);
        due("number()", x.number(), 0);
    }

    private static void number() {
        promise = "16 number";
        due("pp,p;2w", green("pp,p;2w").number(), 3);
        due("ppp,pp,p;3w", green("ppp,pp,p;3w").number(), 0);
        due("ppp,pp,p;3l, not by the law", green("ppp,pp,p;3l").number(), 0);
        due("f;1w", green("f;1w").number(), 0);
        due("ss,s;3w", green("ss,s;3w").number(), 1);
        due("nnnnn;1w", green("nnnnn;1w").number(), 5);
        due("nnnnnn,nnn;1w", green("nnnnnn,nnn;1w").number(), 6 ^ 3);
        PinLanes x = green("pppp;2w");
        due("number()", x.number(), 1);
        due("strike(1, 2)", x.strike(1, 2), 2);
        due("number(), two apart", x.number(), 0);
        due("all()", x.all(), 2);
        due("ball(1)", x.ball(1), 2);
        due("number()", x.number(), 0);
    }

    private static void wins() {
        promise = "17 wins";
        due("p;1w", green("p;1w").wins(), 1);
        due("p;1l", green("p;1l").wins(), 0);
        due("f;1w, none at all", green("f;1w").wins(), 0);
        due("f;1l, none at all", green("f;1l").wins(), 1);
        due("p,p;1w", green("p,p;1w").wins(), 0);
        due("p,p;1l", green("p,p;1l").wins(), 1);
        due("pp,pp;2w", green("pp,pp;2w").wins(), 0);
        due("pp,pp;2l, as with heaps", green("pp,pp;2l").wins(), 0);
        due("pp,p;2l", green("pp,p;2l").wins(), 1);
        PinLanes x = green("pp,pp;2l");
        due("strike(0, 2)", x.strike(0, 2), 2);
        due("wins()", x.wins(), 1);
        due("strike(2, 1)", x.strike(2, 1), 1);
        due("wins()", x.wins(), 0);
        due("strike(3, 1)", x.strike(3, 1), 1);
        due("wins()", x.wins(), 1);
    }

    private static void best() {
        promise = "18 best";
        PinLanes x = green("p,ppp;3w");
        due("best(0)", x.best(0), 12);
        due("best(1), one left beside the one", x.best(1), 2);
        due("best(2)", x.best(2), 2);
        due("best(3)", x.best(3), 4);
        due("best(4)", x.best(4), OUTSIDE);
        due("best(-1)", x.best(-1), OUTSIDE);
        due("rule()", x.rule(), 0);
        due("best(0), lost", x.best(0), 13);
        due("best(1), lost", x.best(1), 2);
        x = green("f,sf;3l");
        due("best(0)", x.best(0), NONE);
        due("best(1)", x.best(1), 0);
        due("best(2)", x.best(2), 1);
        due("strike(1, 1)", x.strike(1, 1), 1);
        due("wins(), none any more", x.wins(), 1);
        due("best(0), none any more", x.best(0), NONE);
        due("best(1)", x.best(1), 0);
        due("best(2)", x.best(2), 0);
        due("best(3)", x.best(3), 0);
        x = green("nnnn;1w");
        due("best(2)", x.best(2), 1);
        due("best(3)", x.best(3), 4);
        due("best(0)", x.best(0), 1);
        due("best(1)", x.best(1), 1);
        x = green("ppppp;3w");
        due("best(0), three in the middle", x.best(0), 13);
        due("best(1), or one in the middle", x.best(1), 2);
    }

    private static void row() {
        promise = "19 row";
        int[][] numbers = {{0, 1, 0, 1, 0, 1, 0, 1, 0, 1}, {0, 1, 2, 3, 1, 4, 3, 2, 1, 4}, {0, 1, 2, 3, 4, 1, 6, 3, 2, 1}};
        PinLanes x = green("s;1l");
        for (int ball = 1; ball <= 3; ball++) {
            x.ball(ball);
            for (int pins = 0; pins < 10; pins++) {
                due("row(" + pins + ") by " + ball, x.row(pins), numbers[ball - 1][pins]);
            }
        }
        due("row(40) by 3", x.row(40), 6);
        due("row(41)", x.row(41), OUTSIDE);
        due("row(-1)", x.row(-1), OUTSIDE);
        due("row(MIN)", x.row(MIN), OUTSIDE);
    }

    private static void period() {
        promise = "20 period";
        int[][] told = {{2, 0}, {20, 20}, {20, 20}};
        PinLanes x = green("s;1l");
        for (int ball = 1; ball <= 3; ball++) {
            x.ball(ball);
            due("period(0) by " + ball, x.period(0), told[ball - 1][0]);
            due("period(1) by " + ball, x.period(1), told[ball - 1][1]);
        }
        due("period(2)", x.period(2), OUTSIDE);
        due("period(-1)", x.period(-1), OUTSIDE);
    }

    private static void likely() {
        promise = "21 likely";
        due("f;1w", green("f;1w").likely(), 0);
        due("f;1l", green("f;1l").likely(), 1000000);
        due("p;1w", green("p;1w").likely(), 1000000);
        due("p;1l", green("p;1l").likely(), 0);
        due("pp;2w", green("pp;2w").likely(), 333333);
        due("pp;2l", green("pp;2l").likely(), 666666);
        due("pp,p;2w", green("pp,p;2w").likely(), 666666);
        PinLanes x = green("pp;2w");
        due("strike(0, 1)", x.strike(0, 1), 1);
        due("likely()", x.likely(), 1000000);
    }

    private static void see() {
        promise = "22 see";
        int[][] fell = {{1, 2}, {2, 2}, {1, 0}, {0, 0}, {3, 3}};
        for (int way = 0; way < 2; way++) {
            for (int many = 0; many <= 3; many++) {
                int sorts = 0;
                for (int kind = 0; kind < 5; kind++) {
                    sorts |= fell[kind][way] == many ? 1 << kind : 0;
                }
                PinLanes x = green("pf;1w");
                due("see(1, " + way + ", " + many + ")", x.see(1, way, many), 1);
                due("pin(1, 4)", x.pin(1, 4), sorts);
                due("pin(0, 4), of which nothing is seen", x.pin(0, 4), 31);
            }
        }
        PinLanes x = green("pf;1w");
        due("see(1, 0, 1)", x.see(1, 0, 1), 1);
        due("pin(1, 5), plain or stout", x.pin(1, 5), 1);
        due("see(1, 1, 0)", x.see(1, 1, 0), 2);
        due("pin(1, 4)", x.pin(1, 4), 4);
        due("pin(1, 5), one left", x.pin(1, 5), 0);
        due("see(0, 1, 2)", x.see(0, 1, 2), 3);
        due("pin(0, 4)", x.pin(0, 4), 3);
        due("pin(0, 5), plain or leaning", x.pin(0, 5), 0);
        due("see(1, 0, 3)", x.see(1, 0, 3), 4);
        due("pin(1, 4), none", x.pin(1, 4), 0);
        due("pin(1, 5), none", x.pin(1, 5), NONE);
        due("see(2, 2, 4)", x.see(2, 2, 4), UNKNOWN);
        due("see(1, 2, 0)", x.see(1, 2, 0), OUTSIDE);
        due("see(1, -1, 0)", x.see(1, -1, 0), OUTSIDE);
        due("see(1, 0, 4)", x.see(1, 0, 4), OUTSIDE);
        due("see(1, 0, -1)", x.see(1, 0, -1), OUTSIDE);
        due("see(0, 1, 2), again", x.see(0, 1, 2), 5);
        due("see(0, 1, 2), again", x.see(0, 1, 2), 6);
        due("see(0, 1, 2), the seventh", x.see(0, 1, 2), FULL);
        due("see(0, 1, 4), the seventh", x.see(0, 1, 4), OUTSIDE);
        due("see(2, 1, 2), the seventh", x.see(2, 1, 2), UNKNOWN);
        due("count(7)", x.count(7), 6);
    }

    private static void forget() {
        promise = "23 forget";
        PinLanes x = green("pf;1w");
        due("forget()", x.forget(), 0);
        due("see(1, 0, 1)", x.see(1, 0, 1), 1);
        due("see(0, 0, 1)", x.see(0, 0, 1), 2);
        due("forget()", x.forget(), 2);
        due("pin(1, 4)", x.pin(1, 4), 31);
        due("see(0, 0, 3)", x.see(0, 0, 3), 1);
        due("pin(0, 4)", x.pin(0, 4), 16);
        due("pin(1, 4)", x.pin(1, 4), 31);
    }

    private static void games() {
        promise = "24 games";
        PinLanes x = green("p;1w");
        due("games(1, 0, 0)", x.games(1, 0, 0), 1);
        due("games(1, 0, 1)", x.games(1, 0, 1), 1);
        due("games(1, 0, 2)", x.games(1, 0, 2), 12345);
        due("games(2, 0, 2)", x.games(2, 0, 2), (1103515245L * 12345 + 12345) % 2147483648L);
        due("games(1, MAX, 2)", x.games(1, MAX, 2), (1103515245L * MAX + 12345) % 2147483648L);
        due("games(40, 7, 0)", x.games(40, 7, 0), 40);
        due("games(40, 7, 1)", x.games(40, 7, 1), 40);
        due("rule()", x.rule(), 0);
        due("games(40, 7, 0), lost", x.games(40, 7, 0), 0);
        due("change(0, 3)", x.change(0, 3), 0);
        due("games(40, 7, 0), none at all", x.games(40, 7, 0), 40);
        due("games(40, 7, 1), none at all", x.games(40, 7, 1), 0);
        due("games(40, 7, 2), no draw", x.games(40, 7, 2), 7);
        for (int[] a : new int[][] {{0, 1, 0}, {41, 1, 0}, {MIN, 1, 0}, {1, -1, 0}, {1, MIN, 0}, {1, 1, -1}, {1, 1, 3}}) {
            due("games(" + a[0] + ", " + a[1] + ", " + a[2] + ")", x.games(a[0], a[1], a[2]), OUTSIDE);
        }
        // 1 draws 16838, of three the third: the right one falls, then the left one.
        x = green("pp;2w");
        due("games(1, 1, 0)", x.games(1, 1, 0), 0);
        due("games(1, 1, 1)", x.games(1, 1, 1), 2);
        due("games(1, 1, 2)", x.games(1, 1, 2), 377401575);
        // 5 draws 18655, of three the second: both fall at once.
        due("games(1, 5, 0)", x.games(1, 5, 0), 1);
        due("games(1, 5, 1)", x.games(1, 5, 1), 2);
        due("games(1, 5, 2)", x.games(1, 5, 2), 1222621274);
        due("count(2), as they would be", x.count(2), 2);
        due("count(6)", x.count(6), 0);
    }

    private static void imageAndRestore() {
        promise = "25, 26 image, restore";
        PinLanes x = green("pn,d;2l");
        due("restore()", x.restore(), STATE);
        due("see(0, 0, 2)", x.see(0, 0, 2), 1);
        due("strike(1, 1)", x.strike(1, 1), 1);
        due("image()", x.image(), 1);
        long kept = x.digest();
        due("all()", x.all(), 1);
        due("ball(3)", x.ball(3), 2);
        due("rule()", x.rule(), 1);
        due("change(2, 2)", x.change(2, 2), 4);
        due("strike(0, 2)", x.strike(0, 2), 2);
        due("see(1, 0, 2)", x.see(1, 0, 2), 2);
        due("restore()", x.restore(), 1);
        due("digest()", x.digest(), kept);
        due("count(7)", x.count(7), 1);
        due("forget()", x.forget(), 1);
        due("strike(2, 1)", x.strike(2, 1), 1);
        due("restore(), again", x.restore(), 1);
        due("digest()", x.digest(), kept);
        due("strike(2, 1)", x.strike(2, 1), 1);
        due("image(), the latest", x.image(), 2);
        due("restore()", x.restore(), 2);
        due("pin(2, 2)", x.pin(2, 2), 0);
        write(x, "pn,d;2");
        due("green(), none", x.green(), STATE);
        due("restore()", x.restore(), 2);
        due("letters stay", x.count(8), 6);
        write(x, "l");
        due("green()", x.green(), 3);
        due("restore(), another green", x.restore(), STATE);
        due("image()", x.image(), 0);
        due("restore()", x.restore(), 0);
        due("count(9)", x.count(9), 2);
    }

    private static void count() {
        promise = "27 count";
        PinLanes x = green("pps,d;3l");
        x.strike(0, 1);
        x.see(1, 0, 1);
        x.see(1, 0, 1);
        write(x, "abc");
        int[] told = {4, 2, 3, 3, 1, 3, 1, 2, 3, 1};
        for (int what = 0; what <= 9; what++) {
            due("count(" + what + ")", x.count(what), told[what]);
        }
        due("count(10)", x.count(10), OUTSIDE);
        due("count(-1)", x.count(-1), OUTSIDE);
        due("count(MIN)", x.count(MIN), OUTSIDE);
        due("count(MAX)", x.count(MAX), OUTSIDE);
    }

    private static void digest() {
        promise = "28 digest";
        long h = 1307;
        for (int i = 0; i < 10; i++) {
            h = 31 * h;
        }
        due("digest(), new", new PinLanes().digest(), h);
        long[] page = {'a', 'b', 0, 0, 0, 0, 0, 0, 0, 0, 2, 0};
        due("digest(), a page", written("ab").digest(), mixed(page));
        long[] told = {
            0, 0, 1, 1, 31, 0,
            3, 1, 1, 0, 31, 0,
            1, 0, 1, 1, 1,
            1, 1, 1, 0, 0,
            1, 1, 1, 1, 1, 1, 1, 20, 20, 1000000,
            ';',
            2, 2, 2, 2, 0, 1, 0, 0, 1, 1,
        };
        PinLanes x = green("p,f;2w");
        x.letter(';');
        due("digest()", x.digest(), mixed(told));
        due("digest(), again", x.digest(), mixed(told));
    }

    private static long mixed(long[] numbers) {
        long h = 1307;
        for (long number : numbers) {
            h = 31 * h + number;
        }
        return h;
    }
}
