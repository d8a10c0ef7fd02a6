import java.math.BigInteger;

/**
 * One test for each sentence of the document that names a boundary case: the last that is allowed and the first that is
 * not, the empty and the full. What refusals leave as it was, and which of several comes, is RefusalsTest's.
 */
public final class BoundsTest {
    private static final int NONE = -1, UNKNOWN = -101, OUTSIDE = -102, STATE = -103, FULL = -104;
    private static final int MIN = Integer.MIN_VALUE, MAX = Integer.MAX_VALUE;

    private static int asked = 0;
    private static int wrong = 0;
    private static String sentence = "";

    public static void main(String[] args) {
        theText();
        whatAStrikeIs();
        whatFalls();
        whatWouldBe();
        rowsOfPlainPins();
        whatIsSeen();
        gamesBySeed();
        whatAnImageKeeps();
        theCalls();
        System.out.println("BoundsTest: " + (asked - wrong) + " of " + asked + " answers are as due");
        if (wrong != 0) {
            System.exit(1);
        }
    }

    // ---- a green as a text

    private static void theText() {
        lanesOneToThree();
        lettersOneToSix();
        pinsNineAtMost();
        kindsByTheirLetters();
        ballOneToThree();
        lawWOrL();
        nothingBehindTheLaw();
        pagesThatEndTooEarly();
        pinsNumberedInARow();
        allStandNobodyHasStruck();
        usedForCalls512();
    }

    private static void lanesOneToThree() {
        sentence = "one to three LANES with \",\" between";
        isNoGreen("", 0);
        isNoGreen(";1w", 0);
        isGreen("p;1w", 1, 1);
        isGreen("p,p;1w", 2, 2);
        isGreen("p,p,p;1w", 3, 3);
        isNoGreen("p,p,p,p;1w", 5);
        isNoGreen("p,p,p,;1w", 5);
    }

    private static void lettersOneToSix() {
        sentence = "each one to six letters";
        isNoGreen(",p;1w", 0);
        isNoGreen("p,,p;1w", 2);
        isNoGreen("p,;1w", 2);
        isNoGreen("p,p,;1w", 4);
        isGreen("pppppp;1w", 6, 1);
        isNoGreen("ppppppp;1w", 6);
        isGreen("p,pppppp;1w", 7, 2);
        isNoGreen("p,ppppppp;1w", 8);
        isGreen("p,p,pppppp;1w", 8, 3);
        isNoGreen("p,p,ppppppp;1w", 10);
        isGreen("pppppp,p,p;1w", 8, 3);
    }

    private static void pinsNineAtMost() {
        sentence = "there are nine at most";
        isGreen("pppppp,pp;1w", 8, 2);
        isGreen("pppppp,ppp;1w", 9, 2);
        isGreen("ppp,pppppp;1w", 9, 2);
        isGreen("ppp,ppp,ppp;1w", 9, 3);
        isGreen("p,pp,pppppp;1w", 9, 3);
        isNoGreen("pppppp,pppp;1w", 10);
        isNoGreen("pppp,pppppp;1w", 10);
        isNoGreen("ppp,ppp,pppp;1w", 11);
        isNoGreen("pppppp,pp,pp;1w", 11);
        // A third lane would want a tenth pin, so no green has the "," there.
        isNoGreen("pppppp,ppp,p;1w", 10);
        isGreen("pppppp,pp,p;1w", 9, 3);
    }

    private static void kindsByTheirLetters() {
        sentence = "0 PIN \"p\", 1 LEAN \"n\", 2 STOUT \"s\", 3 FIXED \"f\", 4 DOUBLE \"d\"";
        only("", "pnsfd");
        only("p", "pnsfd,;");
        only("p,", "pnsfd");
        only("pppppp", ",;");
        only("p,p,p", "pnsfd;");
        only("pppppp,ppp", ";");
        PinLanes x = green("pnsfd;1w");
        for (int pin = 0; pin < 5; pin++) {
            due("pin(" + pin + ", 0)", x.pin(pin, 0), pin);
        }
    }

    private static void ballOneToThree() {
        sentence = "a digit, BALL (1 to 3)";
        only("p;", "123");
        for (int ball = 1; ball <= 3; ball++) {
            due("count(3) of " + ball, green("p;" + ball + "w").count(3), ball);
        }
        isNoGreen("p;0w", 2);
        isNoGreen("p;4w", 2);
        isNoGreen("p;11w", 3);
    }

    private static void lawWOrL() {
        sentence = "a letter, the LAW: \"w\" or \"l\"";
        only("p;1", "wl");
        only("p;3", "wl");
        due("count(4) of w", green("p;1w").count(4), 0);
        due("count(4) of l", green("p;1l").count(4), 1);
    }

    private static void nothingBehindTheLaw() {
        sentence = "A GREEN is a text: .. a letter, the LAW (and nothing behind it)";
        only("p;1w", "");
        only("p;1l", "");
        // The longest green, with the page's last two letters behind it.
        isGreen("ppp,ppp,ppp;3l", 9, 3);
        isNoGreen("ppp,ppp,ppp;3lw", 14);
        isNoGreen("ppp,ppp,ppp;3lww", 14);
    }

    private static void pagesThatEndTooEarly() {
        sentence = "fault(): how many letters it has, if there is none; green(): STATE: it is none";
        String whole = "pnsfd,d,npf;3l";
        for (int many = 0; many < whole.length(); many++) {
            isNoGreen(whole.substring(0, many), many);
        }
        isGreen(whole, 9, 3);
    }

    private static void pinsNumberedInARow() {
        sentence = "PINS are numbered from 0, all lanes in a row; LANES numbered from 0";
        PinLanes x = green("pp,n,sfdppp;1w");
        int[] lanes = {0, 0, 1, 2, 2, 2, 2, 2, 2};
        for (int pin = 0; pin < 9; pin++) {
            due("pin(" + pin + ", 1)", x.pin(pin, 1), lanes[pin]);
        }
        due("pin(9, 1)", x.pin(9, 1), UNKNOWN);
        due("pin(-1, 1)", x.pin(-1, 1), UNKNOWN);
        int[] firsts = {0, 2, 3};
        int[] lengths = {2, 1, 6};
        for (int lane = 0; lane < 3; lane++) {
            due("lane(" + lane + ", 1)", x.lane(lane, 1), firsts[lane]);
            due("lane(" + lane + ", 0)", x.lane(lane, 0), lengths[lane]);
        }
        due("lane(3, 0)", x.lane(3, 0), UNKNOWN);
        due("lane(-1, 0)", x.lane(-1, 0), UNKNOWN);
        x = green("p;1w");
        due("pin(0, 1)", x.pin(0, 1), 0);
        due("pin(1, 1)", x.pin(1, 1), UNKNOWN);
        due("lane(0, 1)", x.lane(0, 1), 0);
        due("lane(1, 1)", x.lane(1, 1), UNKNOWN);
    }

    private static void allStandNobodyHasStruck() {
        sentence = "At first there is none; then all STAND, nobody has struck";
        PinLanes x = new PinLanes();
        for (int what = 0; what <= 9; what++) {
            due("count(" + what + ") of a new one", x.count(what), 0);
        }
        write(x, "dddddd,ddd;1w");
        due("green()", x.green(), 9);
        due("strike(0, 1)", x.strike(0, 1), 6);
        due("strike(8, 1)", x.strike(8, 1), 3);
        due("count(2), none", x.count(2), 0);
        write(x, "pp;1w");
        due("green()", x.green(), 2);
        due("count(2), all", x.count(2), 2);
        due("count(6)", x.count(6), 0);
        due("pin(2, 2), gone", x.pin(2, 2), UNKNOWN);
        due("lane(1, 2), gone", x.lane(1, 2), UNKNOWN);
    }

    private static void usedForCalls512() {
        sentence = "An object is used for at most 512 calls after it has been made";
        PinLanes x = green("p;1w");
        for (int call = 6; call <= 511; call += 2) {
            due("call " + call + ": strike(0, 1)", x.strike(0, 1), 1);
            due("call " + (call + 1) + ": set(0)", x.set(0), 1);
        }
        due("call 512: count(6)", x.count(6), 253);
        x = new PinLanes();
        for (int read = 1; read <= 102; read++) {
            write(x, "p;1w");
            due("call " + 5 * read + ": green()", x.green(), 1);
        }
        due("call 511: count(9)", x.count(9), 102);
        long[] told = {0, 0, 1, 1, 31, 0, 1, 0, 1, 1, 1, 1, 1, 1, 1, 1, 1, 0, 2, 0, 1000000, 1, 1, 1, 1, 0, 1, 0, 0, 0, 102};
        due("call 512: digest()", x.digest(), mixed(told));
    }

    // ---- what a strike is

    private static void whatAStrikeIs() {
        oneToBall();
        ofOneLane();
        thatStand();
        sideBySide();
        noneFixed();
        stoutAlone();
    }

    private static void oneToBall() {
        sentence = "A STRIKE takes 1 to BALL PINS";
        for (int ball = 1; ball <= 3; ball++) {
            PinLanes x = green("pppp;" + ball + "w");
            due("falls(0, 0) by " + ball, x.falls(0, 0), OUTSIDE);
            due("falls(0, 1) by " + ball, x.falls(0, 1), 1);
            due("falls(0, 2) by " + ball, x.falls(0, 2), ball >= 2 ? 3 : STATE);
            due("falls(0, 3) by " + ball, x.falls(0, 3), ball >= 3 ? 7 : STATE);
            due("falls(0, 4) by " + ball, x.falls(0, 4), OUTSIDE);
            due("count(5) by " + ball, x.count(5), new int[] {4, 7, 9}[ball - 1]);
        }
    }

    private static void ofOneLane() {
        sentence = "PINS of one LANE";
        PinLanes x = green("ppp,ppp;3w");
        due("falls(0, 3), to the lane's end", x.falls(0, 3), 7);
        due("falls(1, 2), to the lane's end", x.falls(1, 2), 6);
        due("falls(2, 1), to the lane's end", x.falls(2, 1), 4);
        due("falls(1, 3), over it", x.falls(1, 3), STATE);
        due("falls(2, 2), over it", x.falls(2, 2), STATE);
        due("falls(3, 3), from the next one's first", x.falls(3, 3), 56);
        due("falls(4, 3), behind the last", x.falls(4, 3), STATE);
        due("falls(5, 2), behind the last", x.falls(5, 2), STATE);
        x = green("pppppp,ppp;3w");
        due("falls(6, 3), the last three of nine", x.falls(6, 3), 448);
        due("falls(7, 3), behind the ninth", x.falls(7, 3), STATE);
        due("falls(8, 1), the ninth", x.falls(8, 1), 256);
        due("falls(8, 2), behind the ninth", x.falls(8, 2), STATE);
        due("falls(8, 3), behind the ninth", x.falls(8, 3), STATE);
        due("count(5)", x.count(5), 21);
        due("count(5), lanes of one", green("p,p,p;3w").count(5), 3);
    }

    private static void thatStand() {
        sentence = "PINS .. that STAND";
        for (int fallen = 0; fallen < 3; fallen++) {
            PinLanes x = green("ppp;3w");
            due("strike(" + fallen + ", 1)", x.strike(fallen, 1), 1);
            due("strike(" + fallen + ", 1), again", x.strike(fallen, 1), STATE);
            due("falls(0, 3) without " + fallen, x.falls(0, 3), STATE);
            due("falls(0, 2) without " + fallen, x.falls(0, 2), fallen == 2 ? 3 : STATE);
            due("falls(1, 2) without " + fallen, x.falls(1, 2), fallen == 0 ? 6 : STATE);
            due("pin(" + fallen + ", 3)", x.pin(fallen, 3), 0);
        }
    }

    private static void sideBySide() {
        sentence = "and are side by side";
        PinLanes x = green("ppp;3w");
        due("strike(1, 1)", x.strike(1, 1), 1);
        due("falls(0, 2), over a gap", x.falls(0, 2), STATE);
        due("count(5), two alone", x.count(5), 2);
        due("lane(0, 3), two alone", x.lane(0, 3), 0);
        due("set(1)", x.set(1), 3);
        due("falls(0, 2), the gap is closed", x.falls(0, 2), 3);
        due("count(5)", x.count(5), 6);
    }

    private static void noneFixed() {
        sentence = "none of them FIXED";
        String[] lanes = {"fpp", "pfp", "ppf"};
        int[] there = {3, 2, 3};
        for (int fixed = 0; fixed < 3; fixed++) {
            PinLanes x = green(lanes[fixed] + ";3w");
            due("falls(" + fixed + ", 1)", x.falls(fixed, 1), STATE);
            due("pin(" + fixed + ", 3)", x.pin(fixed, 3), 0);
            due("falls(0, 2) of " + lanes[fixed], x.falls(0, 2), fixed == 2 ? 3 : STATE);
            due("falls(1, 2) of " + lanes[fixed], x.falls(1, 2), fixed == 0 ? 6 : STATE);
            due("falls(0, 3) of " + lanes[fixed], x.falls(0, 3), STATE);
            due("count(5) of " + lanes[fixed], x.count(5), there[fixed]);
        }
    }

    private static void stoutAlone() {
        sentence = "a STOUT one alone (none else is taken with it)";
        String[] lanes = {"spp", "psp", "pps"};
        int[] there = {4, 3, 4};
        for (int stout = 0; stout < 3; stout++) {
            PinLanes x = green(lanes[stout] + ";3w");
            due("falls(" + stout + ", 1)", x.falls(stout, 1), 1 << stout);
            due("pin(" + stout + ", 3)", x.pin(stout, 3), 1 << stout);
            due("falls(0, 2) of " + lanes[stout], x.falls(0, 2), stout == 2 ? 3 : STATE);
            due("falls(1, 2) of " + lanes[stout], x.falls(1, 2), stout == 0 ? 6 : STATE);
            due("falls(0, 3) of " + lanes[stout], x.falls(0, 3), STATE);
            due("count(5) of " + lanes[stout], x.count(5), there[stout]);
        }
        due("falls(0, 2) of ss", green("ss;3w").falls(0, 2), STATE);
    }

    // ---- what falls

    private static void whatFalls() {
        leanTakesTheRightOne();
        doubleTakesBoth();
        andSoOn();
        whatFellCanBeSetUp();
    }

    private static void leanTakesTheRightOne() {
        sentence = "Where a LEAN falls, the PIN next to it on its right (in its LANE) falls, too, if it STANDS ..";
        due("np", green("np;1w").falls(0, 1), 3);
        due("pn, not the left one", green("pn;1w").falls(1, 1), 2);
        due("n,p, not in its lane", green("n,p;1w").falls(0, 1), 1);
        due("n, the last of all", green("ffffff,ffn;1w").falls(8, 1), 256);
        due("ns", green("ns;1w").falls(0, 1), 1);
        due("nf", green("nf;1w").falls(0, 1), 1);
        due("nsp, nothing beyond a stout one", green("nsp;1w").falls(0, 1), 1);
        due("nfp, nothing beyond a fixed one", green("nfp;1w").falls(0, 1), 1);
        due("pn of pnp, taken together", green("pnp;2w").falls(0, 2), 7);
        due("np of npp, taken together", green("npp;2w").falls(0, 2), 3);
        PinLanes x = green("npp;1w");
        due("strike(1, 1)", x.strike(1, 1), 1);
        due("falls(0, 1), the right one has fallen", x.falls(0, 1), 1);
    }

    private static void doubleTakesBoth() {
        sentence = "where a DOUBLE falls, so does that on its left likewise";
        due("pdp", green("pdp;1w").falls(1, 1), 7);
        due("pd,p, not beyond the lane's end", green("pd,p;1w").falls(1, 1), 3);
        due("p,dp, not ahead of the lane's first", green("p,dp;1w").falls(1, 1), 6);
        due("p,d,p", green("p,d,p;1w").falls(1, 1), 2);
        due("d, the first of all", green("dp;1w").falls(0, 1), 3);
        due("d, the last of all", green("ffffff,fpd;1w").falls(8, 1), 384);
        due("sdf", green("sdf;1w").falls(1, 1), 2);
        due("fds", green("fds;1w").falls(1, 1), 2);
        due("psd, nothing beyond a stout one", green("psd;1w").falls(2, 1), 4);
        due("pfd, nothing beyond a fixed one", green("pfd;1w").falls(2, 1), 4);
        due("dp of pdpp, taken together", green("pdpp;2w").falls(1, 2), 7);
        PinLanes x = green("pdp;1w");
        due("strike(0, 1)", x.strike(0, 1), 1);
        due("falls(1, 1), the left one has fallen", x.falls(1, 1), 6);
        due("strike(2, 1)", x.strike(2, 1), 1);
        due("falls(1, 1), both have fallen", x.falls(1, 1), 2);
    }

    private static void andSoOn() {
        sentence = "and so on, by those that fall so";
        PinLanes x = green("nnnnnn,nnn;1w");
        due("n six times, from the first", x.falls(0, 1), 63);
        due("n six times, from the last", x.falls(5, 1), 32);
        due("n three times, behind six", x.falls(6, 1), 448);
        due("strike(2, 1), four at once", x.strike(2, 1), 4);
        due("falls(0, 1), up to the gap", x.falls(0, 1), 3);
        x = green("dddddd,ddd;1w");
        for (int pin = 0; pin < 9; pin++) {
            due("d all over, falls(" + pin + ", 1)", x.falls(pin, 1), pin < 6 ? 63 : 448);
        }
        due("npp, a plain one takes none", green("npp;1w").falls(0, 1), 3);
        due("ppd, a plain one takes none", green("ppd;1w").falls(2, 1), 6);
        due("pndp, leaning then double, not back", green("pndp;1w").falls(1, 1), 14);
        due("pnd, a leaning one takes none on its left", green("pnd;1w").falls(2, 1), 6);
        due("ndp", green("ndp;1w").falls(1, 1), 7);
        due("pdn", green("pdn;1w").falls(2, 1), 4);
    }

    private static void whatFellCanBeSetUp() {
        sentence = "What fell can be SET up again";
        PinLanes x = green("dp,p;1w");
        due("set(0), it stands", x.set(0), STATE);
        due("all(), none had fallen", x.all(), 0);
        due("strike(0, 1)", x.strike(0, 1), 2);
        due("strike(2, 1)", x.strike(2, 1), 1);
        due("count(2), none stands", x.count(2), 0);
        due("set(2), the last pin", x.set(2), 1);
        due("set(2), it stands", x.set(2), STATE);
        due("set(3)", x.set(3), UNKNOWN);
        due("set(-1)", x.set(-1), UNKNOWN);
        due("all(), the others", x.all(), 2);
        due("strike(0, 1)", x.strike(0, 1), 2);
        due("strike(2, 1)", x.strike(2, 1), 1);
        due("all(), all had fallen", x.all(), 3);
        due("count(6), strikes stay", x.count(6), 4);
    }

    // ---- what would be

    private static void whatWouldBe() {
        noStrikeAtAll();
        numberOfALane();
        numberOfAll();
        bestOfLikeOnesTheLeast();
        goodFromNoneToAll();
        shortAndLong();
        likelyRoundedDownEachTime();
    }

    private static void noStrikeAtAll() {
        sentence = "(If there is none at all, it is as if the other one had struck last.)";
        for (String lanes : new String[] {"f", "ffffff,fff", "f,f,f"}) {
            for (int ball = 1; ball <= 3; ball++) {
                isOver(green(lanes + ";" + ball + "w"), 0);
                isOver(green(lanes + ";" + ball + "l"), 1);
            }
        }
        for (int law = 0; law <= 1; law++) {
            PinLanes x = green("dp,f;2" + "wl".charAt(law));
            due("strike(1, 1)", x.strike(1, 1), 1);
            due("count(5), one is left", x.count(5), 1);
            due("wins()", x.wins(), 1 - law);
            due("strike(0, 1)", x.strike(0, 1), 1);
            isOver(x, law);
            due("rule()", x.rule(), law);
            isOver(x, 1 - law);
        }
    }

    private static void isOver(PinLanes x, int law) {
        due("count(5), none", x.count(5), 0);
        due("number(), none", x.number(), 0);
        due("lane(0, 3), none", x.lane(0, 3), 0);
        due("wins(), none", x.wins(), law);
        due("best(0), none", x.best(0), NONE);
        due("best(1), none", x.best(1), 0);
        due("best(2), none", x.best(2), 0);
        due("best(3), none", x.best(3), 0);
        due("likely(), none", x.likely(), law == 1 ? 1000000 : 0);
        due("games(40, 9, 0), none", x.games(40, 9, 0), law == 1 ? 40 : 0);
        due("games(40, 9, 1), none", x.games(40, 9, 1), 0);
        due("games(40, 9, 2), none", x.games(40, 9, 2), 9);
    }

    private static void numberOfALane() {
        sentence = "the least whole number, from 0 on, that is not the NUMBER of what is left ..";
        due("f", green("f;1w").lane(0, 3), 0);
        due("s", green("s;1w").lane(0, 3), 1);
        due("pp by 1: what is left has 1 alone", green("pp;1w").lane(0, 3), 0);
        due("pp by 2: 0 and 1", green("pp;2w").lane(0, 3), 2);
        due("ss: a stout one is never taken with another", green("ss;3w").lane(0, 3), 0);
        due("n six times", green("nnnnnn;1w").lane(0, 3), 6);
        PinLanes x = green("nnn,f,pp;1w");
        due("lane(0, 3)", x.lane(0, 3), 3);
        due("strike(0, 1)", x.strike(0, 1), 3);
        due("lane(0, 3), none stands", x.lane(0, 3), 0);
        due("lane(2, 3)", x.lane(2, 3), 0);
        due("strike(4, 1)", x.strike(4, 1), 1);
        due("lane(2, 3), the last lane", x.lane(2, 3), 1);
    }

    private static void numberOfAll() {
        sentence = "those of all LANES, put together by figures of two: 1 where an odd number of them has 1";
        due("one lane", green("nnnnnn;1w").number(), 6);
        due("two alike", green("nnn,nnn;1w").number(), 0);
        due("three alike", green("nnn,nnn,nnn;1w").number(), 3);
        due("4, 2, 1", green("nnnn,nn,n;1w").number(), 7);
        due("3, 2, 1", green("nnn,nn,n;1w").number(), 0);
        due("6, 2, 1", green("nnnnnn,nn,n;1w").number(), 5);
        due("lanes without a strike", green("f,nn,f;1w").number(), 2);
    }

    private static void bestOfLikeOnesTheLeast() {
        sentence = "told as 10 times the first PIN that is taken, and how many are: of like ones the least; none";
        due("p,p,p, each does", green("p,p,p;1w").best(0), 1);
        due("ppp by 3, all or the middle", green("ppp;3w").best(0), 3);
        due("ppp by 3, lost, all but one", green("ppp;3l").best(0), 2);
        due("the ninth alone", green("ffffff,ffp;3w").best(0), 81);
        due("the last two", green("ffffff,fpp;3w").best(0), 72);
        due("the last three of nine, or the middle", green("ffffff,ppp;3w").best(0), 63);
        due("p,p, none does", green("p,p;1w").best(0), NONE);
        due("p, lost, none does", green("p;1l").best(0), NONE);
    }

    private static void goodFromNoneToAll() {
        sentence = "GOOD: how many such STRIKES there are";
        due("p,p, none", green("p,p;1w").best(1), 0);
        due("f, none at all", green("f;1l").best(1), 0);
        due("ppp by 3, two of six", green("ppp;3w").best(1), 2);
        PinLanes x = green("pppppp,ppp;1w");
        due("nine plain by 1, all", x.best(1), 9);
        due("count(5)", x.count(5), 9);
        due("rule()", x.rule(), 0);
        due("nine plain by 1, lost", x.best(1), 0);
        x = green("dddddd,fff;3w");
        due("six double, all of fifteen", x.best(1), 15);
        due("count(5)", x.count(5), 15);
    }

    private static void shortAndLong() {
        sentence = "SHORT, LONG: how many STRIKES there can be at least, at most, till there is none any more";
        shortLong("f;3w", 0, 0);
        shortLong("p;3w", 1, 1);
        shortLong("pppppp,ppp;1w", 9, 9);
        shortLong("pppppp,ppp;2w", 5, 9);
        shortLong("pppppp,ppp;3l", 3, 9);
        shortLong("nnnnnn,nnn;1w", 2, 9);
        shortLong("dddddd,ddd;1w", 2, 2);
        shortLong("ssssss,sss;3w", 9, 9);
        shortLong("pfp,f;3w", 2, 2);
    }

    private static void shortLong(String text, int least, int most) {
        PinLanes x = green(text);
        due(text + " best(2)", x.best(2), least);
        due(text + " best(3)", x.best(3), most);
        due(text + " best(-1)", x.best(-1), OUTSIDE);
        due(text + " best(4)", x.best(4), OUTSIDE);
    }

    private static void likelyRoundedDownEachTime() {
        sentence = "LIKELY: a million ..; 0, if he has lost; else .. rounded down (so each time)";
        due("f;1w", green("f;1w").likely(), 0);
        due("f;1l", green("f;1l").likely(), 1000000);
        due("s;1w, sure", green("s;1w").likely(), 1000000);
        due("s;1l, sure", green("s;1l").likely(), 0);
        due("pp;2w, one of three", green("pp;2w").likely(), 333333);
        due("pp;2l, two of three", green("pp;2l").likely(), 666666);
        // 419047.6.. without rounding: what is rounded down for the other one is more for who is next.
        due("pppp;2l", green("pppp;2l").likely(), 419048);
        // Four strikes leave 333333 to the other one, two leave 666666: 3333336 by 6; 555555.5.. without rounding.
        due("pp,pp;2l", green("pp,pp;2l").likely(), 555556);
    }

    // ---- rows of plain pins

    private static void rowsOfPlainPins() {
        rowsTo40();
        periodByBall();
        alikeFromNoneTo40();
    }

    private static void rowsTo40() {
        sentence = "ROW of so many plain PINS (0 to 40; all STAND, alone in a LANE): its NUMBER, by BALL";
        int[] of38 = {0, 2, 4};
        int[] of39 = {1, 3, 1};
        int[] of40 = {0, 1, 6};
        for (int ball = 1; ball <= 3; ball++) {
            PinLanes x = green("fs,d;" + ball + "l");
            due("strike(1, 1), no matter for rows", x.strike(1, 1), 1);
            due("row(-1) by " + ball, x.row(-1), OUTSIDE);
            due("row(0) by " + ball, x.row(0), 0);
            due("row(1) by " + ball, x.row(1), 1);
            due("row(38) by " + ball, x.row(38), of38[ball - 1]);
            due("row(39) by " + ball, x.row(39), of39[ball - 1]);
            due("row(40) by " + ball, x.row(40), of40[ball - 1]);
            due("row(41) by " + ball, x.row(41), OUTSIDE);
            for (int pins = 1; pins <= 6; pins++) {
                long lane = green("pppppp".substring(0, pins) + ";" + ball + "w").lane(0, 3);
                due("row(" + pins + ") by " + ball + ", as a lane of such", x.row(pins), lane);
            }
        }
        due("row(0) without a green", new PinLanes().row(0), STATE);
        due("row(40) without a green", new PinLanes().row(40), STATE);
        due("row(41) without a green", new PinLanes().row(41), OUTSIDE);
    }

    private static void periodByBall() {
        // By 2 and by 3 none does but the last: rows of 20 and of 40 are the same, and there is no other to compare.
        sentence = "the least P (1 to 20) .. (FROM 20 at most; the least FROM that does for that P); none";
        int[][] due = {{2, 0}, {20, 20}, {20, 20}};
        PinLanes x = green("p;1w");
        for (int ball = 1; ball <= 3; ball++) {
            x.ball(ball);
            due("period(-1) by " + ball, x.period(-1), OUTSIDE);
            due("period(0) by " + ball, x.period(0), due[ball - 1][0]);
            due("period(1) by " + ball, x.period(1), due[ball - 1][1]);
            due("period(2) by " + ball, x.period(2), OUTSIDE);
            due("row(20) and row(40) by " + ball, x.row(20), x.row(40));
        }
        due("ball(1)", x.ball(1), 3);
        due("period(1), by another ball", x.period(1), 0);
    }

    private static void alikeFromNoneTo40() {
        sentence = "ALIKE of a LANE: the fewest plain PINS (0 to 40) whose ROW has its NUMBER; none";
        due("f, an empty row", green("f;1w").lane(0, 4), 0);
        due("pp by 1, of rows of 0, 2, 4 .. the fewest", green("pp;1w").lane(0, 4), 0);
        due("s", green("s;1w").lane(0, 4), 1);
        due("np by 1 has 2, and no row has", green("np;1w").lane(0, 4), NONE);
        due("np by 2 has 2", green("np;2w").lane(0, 4), 2);
        PinLanes x = green("pnppp;2w");
        due("pnppp by 2", x.lane(0, 3), 5);
        due("pnppp by 2, 28 are the fewest", x.lane(0, 4), 28);
        due("row(28)", x.row(28), 5);
        x = green("nnnnnn;2w");
        due("n six times by 2", x.lane(0, 3), 6);
        due("n six times by 2", x.lane(0, 4), 11);
        due("ball(1)", x.ball(1), 2);
        due("n six times by 1, none", x.lane(0, 4), NONE);
        due("strike(0, 1)", x.strike(0, 1), 6);
        due("none stands", x.lane(0, 4), 0);
    }

    // ---- what is seen

    private static void whatIsSeen() {
        seenSixAtMost();
        seenWaysAndFell();
        sortsFromAllToNone();
        wayOfLikeOnesZero();
        forgetEmptyAndFull();
    }

    private static void seenSixAtMost() {
        sentence = "SEEN (6 at most)";
        int[] pins = {1, 2, 9};
        String[] texts = {"p;1w", "p,p;1w", "pppppp,ppp;1w"};
        for (int t = 0; t < 3; t++) {
            PinLanes x = green(texts[t]);
            for (int i = 1; i <= 6; i++) {
                due("see, number " + i, x.see(i % pins[t], 0, 1), i);
            }
            due("see, the seventh", x.see(0, 0, 1), FULL);
            due("see, the seventh, of the last pin", x.see(pins[t] - 1, 1, 0), FULL);
            due("count(7)", x.count(7), 6);
        }
    }

    private static void seenWaysAndFell() {
        sentence = "see(): UNKNOWN: pin; OUTSIDE: way (0, 1), fell (0 to 3)";
        PinLanes x = green("pp;1w");
        due("see(0, 0, 0)", x.see(0, 0, 0), 1);
        due("see(1, 1, 3)", x.see(1, 1, 3), 2);
        due("see(2, 1, 3)", x.see(2, 1, 3), UNKNOWN);
        due("see(-1, 0, 0)", x.see(-1, 0, 0), UNKNOWN);
        due("see(0, -1, 0)", x.see(0, -1, 0), OUTSIDE);
        due("see(0, 2, 0)", x.see(0, 2, 0), OUTSIDE);
        due("see(0, 0, -1)", x.see(0, 0, -1), OUTSIDE);
        due("see(0, 0, 4)", x.see(0, 0, 4), OUTSIDE);
        due("see(2, 2, 4), the first as told", x.see(2, 2, 4), UNKNOWN);
        due("count(7)", x.count(7), 2);
        due("see(0, 0, 0) without a green", new PinLanes().see(0, 0, 0), UNKNOWN);
    }

    private static void sortsFromAllToNone() {
        sentence = "SORTS (KINDS 0 to 4) it can be of, so that all that is SEEN of it is so: as bits";
        int[][] sorts = {{8, 5, 2, 16}, {12, 0, 3, 16}};
        for (int way = 0; way <= 1; way++) {
            for (int fell = 0; fell <= 3; fell++) {
                PinLanes x = green("f,p;1w");
                due("pin(0, 4), nothing is seen", x.pin(0, 4), 31);
                due("see(0, " + way + ", " + fell + ")", x.see(0, way, fell), 1);
                due("pin(0, 4)", x.pin(0, 4), sorts[way][fell]);
                due("pin(1, 4), of which nothing is seen", x.pin(1, 4), 31);
            }
        }
        PinLanes x = green("p;1w");
        due("see(0, 0, 1)", x.see(0, 0, 1), 1);
        due("see(0, 1, 2)", x.see(0, 1, 2), 2);
        due("pin(0, 4), plain", x.pin(0, 4), 1);
        due("see(0, 0, 3)", x.see(0, 0, 3), 3);
        due("pin(0, 4), none", x.pin(0, 4), 0);
        x = green("pppppp,ppp;1w");
        due("see(8, 0, 1), the last pin", x.see(8, 0, 1), 1);
        due("see(4, 1, 0)", x.see(4, 1, 0), 2);
        due("see(8, 1, 0)", x.see(8, 1, 0), 3);
        int[] left = {31, 31, 31, 31, 12, 31, 31, 31, 4};
        for (int pin = 0; pin < 9; pin++) {
            due("pin(" + pin + ", 4)", x.pin(pin, 4), left[pin]);
        }
    }

    private static void wayOfLikeOnesZero() {
        sentence = "WAY for a PIN: .. of like ones 0; none, if there are none";
        int[][] ways = {{0, 1, 0, 0}, {0, NONE, 0, 0}};
        for (int way = 0; way <= 1; way++) {
            for (int fell = 0; fell <= 3; fell++) {
                PinLanes x = green("f,p;1w");
                due("pin(0, 5), nothing is seen: two are left at worst by both", x.pin(0, 5), 0);
                due("see(0, " + way + ", " + fell + ")", x.see(0, way, fell), 1);
                due("pin(0, 5)", x.pin(0, 5), ways[way][fell]);
                due("pin(1, 5), of which nothing is seen", x.pin(1, 5), 0);
            }
        }
    }

    private static void forgetEmptyAndFull() {
        sentence = "Nothing is SEEN any more: how much was";
        due("forget() without a green", new PinLanes().forget(), 0);
        PinLanes x = green("p;1w");
        due("forget(), nothing was", x.forget(), 0);
        for (int i = 1; i <= 6; i++) {
            due("see(0, 1, 1)", x.see(0, 1, 1), i);
        }
        due("forget(), all", x.forget(), 6);
        due("forget(), again", x.forget(), 0);
        due("pin(0, 4)", x.pin(0, 4), 31);
        for (int i = 1; i <= 6; i++) {
            due("see(0, 0, 2)", x.see(0, 0, 2), i);
        }
        due("pin(0, 4)", x.pin(0, 4), 2);
        due("see(0, 0, 2), the seventh", x.see(0, 0, 2), FULL);
    }

    // ---- games by a seed

    private static void gamesBySeed() {
        timesSeedWhat();
        drawsByTheirRests();
        fromWhatStandsNow();
    }

    private static void timesSeedWhat() {
        sentence = "games(): OUTSIDE: times (1 to 40), seed (0 at least), what; STATE: no GREEN";
        PinLanes x = green("pppppp,ppp;1w");
        due("games(0, 0, 0)", x.games(0, 0, 0), OUTSIDE);
        due("games(1, 0, 0)", x.games(1, 0, 0), 1);
        due("games(1, 0, 1)", x.games(1, 0, 1), 9);
        due("games(40, 0, 0)", x.games(40, 0, 0), 40);
        due("games(40, 0, 1)", x.games(40, 0, 1), 360);
        due("games(41, 0, 0)", x.games(41, 0, 0), OUTSIDE);
        due("games(1, -1, 0)", x.games(1, -1, 0), OUTSIDE);
        due("games(1, MIN, 0)", x.games(1, MIN, 0), OUTSIDE);
        due("games(1, MAX, 0)", x.games(1, MAX, 0), 1);
        due("games(1, 0, -1)", x.games(1, 0, -1), OUTSIDE);
        due("games(1, 0, 3)", x.games(1, 0, 3), OUTSIDE);
        due("rule()", x.rule(), 0);
        due("games(40, 0, 0), lost", x.games(40, 0, 0), 0);
        due("games(40, 0, 1), lost", x.games(40, 0, 1), 360);
        x = new PinLanes();
        due("games(1, 0, 0) without a green", x.games(1, 0, 0), STATE);
        due("games(40, MAX, 2) without a green", x.games(40, MAX, 2), STATE);
        due("games(41, 0, 0) without a green", x.games(41, 0, 0), OUTSIDE);
        due("games(1, -1, 0) without a green", x.games(1, -1, 0), OUTSIDE);
        due("games(1, 0, 3) without a green", x.games(1, 0, 3), OUTSIDE);
    }

    private static void drawsByTheirRests() {
        sentence = "DRAWS: .. its rest by 2 to the 31; then that by 65536 (rounded down), its rest";
        PinLanes x = green("p;1w");
        due("the least seed", x.games(1, 0, 2), 12345);
        due("the greatest seed", x.games(1, MAX, 2), 1043980748);
        due("the next is the least", x.games(1, 2088216195, 2), 0);
        due("the next is the greatest", x.games(1, 230538014, 2), MAX);
        long seed = MAX;
        for (int draw = 0; draw < 40; draw++) {
            seed = BigInteger.valueOf(seed).multiply(BigInteger.valueOf(1103515245)).add(BigInteger.valueOf(12345))
                    .mod(BigInteger.ONE.shiftLeft(31)).longValue();
        }
        due("forty from the greatest", x.games(40, MAX, 2), seed);
        // Three strikes: the left one, both, the right one; "both" ends the game with one draw, and wins it.
        x = green("pp;2w");
        onePair(x, 2088216195, 0, 12345);
        onePair(x, 230538014, 1, MAX);
        onePair(x, 2032319262, 0, 65535);
        onePair(x, 1742513795, 1, 65536);
    }

    private static void onePair(PinLanes x, int seed, int won, int next) {
        due("games(1, " + seed + ", 0)", x.games(1, seed, 0), won);
        due("games(1, " + seed + ", 1)", x.games(1, seed, 1), 2);
        boolean goesOn = won == 0 && next != 12345;
        due("games(1, " + seed + ", 2)", x.games(1, seed, 2), goesOn ? (1103515245L * next + 12345) % (1L << 31) : next);
    }

    private static void fromWhatStandsNow() {
        sentence = "GAMES by a SEED, as they would be: so many, each from what STANDS now";
        PinLanes x = green("ss,s;3w");
        due("games(40, 1, 1), three stand", x.games(40, 1, 1), 120);
        due("games(40, 1, 0), three strikes each", x.games(40, 1, 0), 40);
        due("count(2), as they would be", x.count(2), 3);
        due("count(6), as they would be", x.count(6), 0);
        due("strike(1, 1)", x.strike(1, 1), 1);
        due("games(40, 1, 1), two stand", x.games(40, 1, 1), 80);
        due("games(40, 1, 0), two strikes each", x.games(40, 1, 0), 0);
        due("strike(0, 1)", x.strike(0, 1), 1);
        due("strike(2, 1)", x.strike(2, 1), 1);
        due("games(40, 1, 1), none stands", x.games(40, 1, 1), 0);
        due("games(40, 1, 2), no draw", x.games(40, 1, 2), 1);
    }

    // ---- what an image keeps

    private static void whatAnImageKeeps() {
        imageKeepsSixThings();
        imageDoesNotKeepThePage();
        imageOneTheLatest();
        imageAndAnotherGreen();
    }

    private static void imageKeepsSixThings() {
        sentence = "An IMAGE keeps KINDS, what STANDS, BALL, the LAW, how often was struck, SEEN";
        PinLanes x = green("pn,d;2l");
        due("strike(0, 1)", x.strike(0, 1), 1);
        due("see(2, 0, 3)", x.see(2, 0, 3), 1);
        due("image()", x.image(), 1);
        long kept = x.digest();
        due("change(2, 3)", x.change(2, 3), 4);
        due("restore(), kinds", x.restore(), 1);
        due("digest(), kinds", x.digest(), kept);
        due("set(0)", x.set(0), 3);
        due("restore(), what stands", x.restore(), 1);
        due("digest(), what stands", x.digest(), kept);
        due("ball(3)", x.ball(3), 2);
        due("restore(), ball", x.restore(), 1);
        due("digest(), ball", x.digest(), kept);
        due("rule()", x.rule(), 1);
        due("restore(), law", x.restore(), 1);
        due("digest(), law", x.digest(), kept);
        due("strike(2, 1)", x.strike(2, 1), 1);
        due("set(2)", x.set(2), 2);
        due("count(6)", x.count(6), 2);
        due("restore(), how often was struck", x.restore(), 1);
        due("digest(), how often was struck", x.digest(), kept);
        due("forget()", x.forget(), 1);
        due("see(2, 0, 2)", x.see(2, 0, 2), 1);
        due("restore(), seen", x.restore(), 1);
        due("digest(), seen", x.digest(), kept);
        for (int i = 2; i <= 6; i++) {
            due("see(1, 1, 0)", x.see(1, 1, 0), i);
        }
        due("image(), seen is full", x.image(), 1);
        due("forget()", x.forget(), 6);
        for (int i = 1; i <= 6; i++) {
            due("see(0, 0, 2)", x.see(0, 0, 2), i);
        }
        due("restore(), seen is full", x.restore(), 1);
        due("see(1, 1, 0)", x.see(1, 1, 0), FULL);
        int[] sorts = {31, 12, 16};
        for (int pin = 0; pin < 3; pin++) {
            due("pin(" + pin + ", 4), seen of which pin, and which way", x.pin(pin, 4), sorts[pin]);
        }
    }

    private static void imageDoesNotKeepThePage() {
        sentence = "An IMAGE keeps .. (not THE PAGE, nor how often a GREEN was read)";
        PinLanes x = green("p;1w");
        write(x, "abc");
        due("image()", x.image(), 0);
        due("letter('d')", x.letter('d'), 4);
        due("restore()", x.restore(), 0);
        due("count(8)", x.count(8), 4);
        due("blank()", x.blank(), 4);
        due("restore()", x.restore(), 0);
        due("count(8)", x.count(8), 0);
        due("count(9)", x.count(9), 1);
    }

    private static void imageOneTheLatest() {
        sentence = "An IMAGE is kept (one; the latest): how often was struck. STATE: no GREEN";
        due("image() without a green", new PinLanes().image(), STATE);
        PinLanes x = green("pp;1w");
        due("image(), none was struck", x.image(), 0);
        due("strike(0, 1)", x.strike(0, 1), 1);
        due("image(), the latest", x.image(), 1);
        due("strike(1, 1)", x.strike(1, 1), 1);
        due("restore()", x.restore(), 1);
        due("count(2)", x.count(2), 1);
        due("restore(), again", x.restore(), 1);
        due("count(2)", x.count(2), 1);
    }

    private static void imageAndAnotherGreen() {
        sentence = "restore(): STATE: none was kept, or there is another GREEN since";
        due("restore() without a green", new PinLanes().restore(), STATE);
        PinLanes x = green("pp;1w");
        due("restore(), none was kept", x.restore(), STATE);
        due("image()", x.image(), 0);
        write(x, "pp;1");
        due("green(), refused", x.green(), STATE);
        due("restore(), no other green", x.restore(), 0);
        write(x, "w");
        due("green(), of the same text", x.green(), 2);
        due("restore(), another green", x.restore(), STATE);
        due("strike(0, 1)", x.strike(0, 1), 1);
        due("image()", x.image(), 1);
        due("all()", x.all(), 1);
        due("restore()", x.restore(), 1);
        due("count(2)", x.count(2), 1);
    }

    // ---- the calls

    private static void theCalls() {
        letterCodesAndFull();
        blankEmptyAndFull();
        anotherGreenIsGone();
        aloneAsBits();
        takenAsAKind();
        laneStanding();
        strikeFull();
        ballFromOneToAnother();
        ruleThereAndBack();
        changeKinds();
        withoutAGreen();
        countOutside();
        digestWraps();
    }

    private static void letterCodesAndFull() {
        sentence = "letter(): OUTSIDE: code (1 to 126); FULL: above 16";
        PinLanes x = new PinLanes();
        for (int code : new int[] {MIN, -1, 0, 127, 128, 256 + 'p', 65536 + 'p', MAX}) {
            due("letter(" + code + ")", x.letter(code), OUTSIDE);
        }
        due("letter(1)", x.letter(1), 1);
        due("letter(126)", x.letter(126), 2);
        for (int many = 3; many <= 16; many++) {
            due("letter(112), number " + many, x.letter(112), many);
        }
        due("letter(1), the 17th", x.letter(1), FULL);
        due("letter(126), the 17th", x.letter(126), FULL);
        due("letter(0), the 17th", x.letter(0), OUTSIDE);
        due("letter(127), the 17th", x.letter(127), OUTSIDE);
        long[] told = new long[26];
        java.util.Arrays.fill(told, 0, 16, 112);
        told[0] = 1;
        told[1] = 126;
        told[24] = 16;
        due("digest(), sixteen letters", x.digest(), mixed(told));
    }

    private static void blankEmptyAndFull() {
        sentence = "THE PAGE is empty: how many letters it had";
        PinLanes x = new PinLanes();
        due("blank(), none", x.blank(), 0);
        due("letter(112)", x.letter(112), 1);
        due("blank(), one", x.blank(), 1);
        write(x, "pppppppppppppppp");
        due("letter(112), full", x.letter(112), FULL);
        due("blank(), sixteen", x.blank(), 16);
        due("fault(), none", x.fault(), 0);
        due("letter(112), again", x.letter(112), 1);
        due("fault()", x.fault(), 1);
    }

    private static void anotherGreenIsGone() {
        sentence = "THE PAGE is read as THE GREEN (another one is gone, with all that was): .. THE PAGE is empty then";
        PinLanes x = green("pnsfd,dp,np;3l");
        due("strike(0, 1)", x.strike(0, 1), 1);
        for (int i = 1; i <= 6; i++) {
            due("see(0, 0, 3)", x.see(0, 0, 3), i);
        }
        due("change(0, 4)", x.change(0, 4), 0);
        write(x, "p;1w");
        due("green()", x.green(), 1);
        int[] told = {1, 1, 1, 1, 0, 1, 0, 0, 0, 2};
        for (int what = 0; what <= 9; what++) {
            due("count(" + what + ")", x.count(what), told[what]);
        }
        due("pin(0, 0)", x.pin(0, 0), 0);
        due("pin(0, 4)", x.pin(0, 4), 31);
        due("see(0, 0, 1), the first", x.see(0, 0, 1), 1);
        due("green(), the page is empty", x.green(), STATE);
        due("count(9)", x.count(9), 2);
    }

    private static void aloneAsBits() {
        sentence = "3 what would fall, if it was taken alone, as bits (0: it cannot be)";
        PinLanes x = green("nsf,pdn,nnn;3w");
        int[] bits = {1, 2, 0, 8, 56, 32, 448, 384, 256};
        for (int pin = 0; pin < 9; pin++) {
            due("pin(" + pin + ", 3)", x.pin(pin, 3), bits[pin]);
        }
        due("strike(8, 1)", x.strike(8, 1), 1);
        due("pin(8, 3), it has fallen", x.pin(8, 3), 0);
        due("pin(7, 3)", x.pin(7, 3), 128);
        due("pin(0, -1)", x.pin(0, -1), OUTSIDE);
        due("pin(0, 6)", x.pin(0, 6), OUTSIDE);
        due("pin(9, 6), the first as told", x.pin(9, 6), UNKNOWN);
    }

    private static void takenAsAKind() {
        sentence = "All are PINS; a DOUBLE is a LEAN, too .. NONE: it is none such. UNKNOWN; OUTSIDE";
        PinLanes x = green("pnsfd;1w");
        String[] casts = {"10000", "11000", "10100", "10010", "11001"};
        for (int pin = 0; pin < 5; pin++) {
            due("as(" + pin + ", -1)", x.as(pin, -1), OUTSIDE);
            for (int kind = 0; kind < 5; kind++) {
                due("as(" + pin + ", " + kind + ")", x.as(pin, kind), casts[pin].charAt(kind) == '1' ? pin : NONE);
            }
            due("as(" + pin + ", 5)", x.as(pin, 5), OUTSIDE);
        }
        due("as(5, 5), the first as told", x.as(5, 5), UNKNOWN);
        due("as(-1, 0)", x.as(-1, 0), UNKNOWN);
        due("as(0, 0) without a green", new PinLanes().as(0, 0), UNKNOWN);
    }

    private static void laneStanding() {
        sentence = "Of a LANE: .. 2 how many STAND .. UNKNOWN; OUTSIDE";
        PinLanes x = green("p,nnnnnn,pp;1w");
        due("lane(1, 2), all", x.lane(1, 2), 6);
        due("strike(1, 1)", x.strike(1, 1), 6);
        due("lane(0, 2)", x.lane(0, 2), 1);
        due("lane(1, 2), none", x.lane(1, 2), 0);
        due("lane(1, 0), they are its own", x.lane(1, 0), 6);
        due("lane(2, 2)", x.lane(2, 2), 2);
        due("lane(0, -1)", x.lane(0, -1), OUTSIDE);
        due("lane(0, 5)", x.lane(0, 5), OUTSIDE);
        due("lane(3, 5), the first as told", x.lane(3, 5), UNKNOWN);
        due("lane(0, 0) without a green", new PinLanes().lane(0, 0), UNKNOWN);
    }

    private static void strikeFull() {
        // What an object answers is free after 512 calls, and 999 strikes need more: that it holds there, too, is ours.
        sentence = "strike(): UNKNOWN: pin; OUTSIDE: many (1 to 3); STATE: it is none; FULL: 999 were";
        PinLanes x = green("pppppp,ppp;3w");
        for (int struck = 0; struck < 999; struck++) {
            if (struck % 9 == 0) {
                x.all();
            }
            due("strike, number " + (struck + 1), x.strike(struck % 9, 1), 1);
        }
        due("count(6)", x.count(6), 999);
        due("strike(0, 1), none stands", x.strike(0, 1), STATE);
        due("all()", x.all(), 9);
        due("strike(0, 1), 999 were", x.strike(0, 1), FULL);
        due("strike(5, 2), none is", x.strike(5, 2), STATE);
        due("strike(0, 4)", x.strike(0, 4), OUTSIDE);
        due("strike(9, 1)", x.strike(9, 1), UNKNOWN);
        due("falls(0, 1), it would", x.falls(0, 1), 1);
        due("count(2), nothing fell", x.count(2), 9);
        due("count(6), no more", x.count(6), 999);
    }

    private static void ballFromOneToAnother() {
        sentence = "BALL is another one: which it was. OUTSIDE: ball (1 to 3); STATE: no GREEN";
        PinLanes x = green("ppp;2w");
        due("ball(0)", x.ball(0), OUTSIDE);
        due("ball(1)", x.ball(1), 2);
        due("count(5) by 1", x.count(5), 3);
        due("ball(3)", x.ball(3), 1);
        due("count(5) by 3", x.count(5), 6);
        due("ball(4)", x.ball(4), OUTSIDE);
        due("ball(3), the same", x.ball(3), 3);
        due("best(0) by 3", x.best(0), 3);
        due("ball(1)", x.ball(1), 3);
        due("best(0) by 1", x.best(0), 1);
        due("ball(0) without a green", new PinLanes().ball(0), OUTSIDE);
        due("ball(1) without a green", new PinLanes().ball(1), STATE);
        due("ball(3) without a green", new PinLanes().ball(3), STATE);
        due("ball(4) without a green", new PinLanes().ball(4), OUTSIDE);
    }

    private static void ruleThereAndBack() {
        sentence = "The LAW is the other one: which it was (0 who STRIKES last has won, 1 lost)";
        PinLanes x = green("p,p;1w");
        due("rule()", x.rule(), 0);
        due("wins(), lost", x.wins(), 1);
        due("likely(), lost", x.likely(), 1000000);
        due("rule()", x.rule(), 1);
        due("wins(), won", x.wins(), 0);
        due("likely(), won", x.likely(), 0);
        due("rule()", x.rule(), 0);
        due("count(4)", x.count(4), 1);
    }

    private static void changeKinds() {
        sentence = "A PIN is of another KIND: of which it was. UNKNOWN; OUTSIDE: kind (0 to 4)";
        PinLanes x = green("pppppp,ppp;1w");
        due("change(8, -1)", x.change(8, -1), OUTSIDE);
        due("change(8, 0), the same", x.change(8, 0), 0);
        due("change(8, 4)", x.change(8, 4), 0);
        due("falls(8, 1), double", x.falls(8, 1), 384);
        due("change(8, 5)", x.change(8, 5), OUTSIDE);
        due("change(8, 3)", x.change(8, 3), 4);
        due("falls(8, 1), fixed", x.falls(8, 1), STATE);
        due("change(1, 4)", x.change(1, 4), 0);
        due("falls(1, 1), double", x.falls(1, 1), 7);
        due("change(1, 1)", x.change(1, 1), 4);
        due("falls(1, 1), leaning", x.falls(1, 1), 6);
        due("change(1, 0)", x.change(1, 0), 1);
        due("falls(1, 1), plain", x.falls(1, 1), 2);
        due("change(9, 5), the first as told", x.change(9, 5), UNKNOWN);
        due("change(9, 0)", x.change(9, 0), UNKNOWN);
        due("change(-1, 0)", x.change(-1, 0), UNKNOWN);
        due("strike(0, 1)", x.strike(0, 1), 1);
        due("change(0, 3), one that has fallen", x.change(0, 3), 0);
        due("pin(0, 2), it does not stand by that", x.pin(0, 2), 0);
        due("set(0)", x.set(0), 9);
        due("falls(0, 1), fixed", x.falls(0, 1), STATE);
        due("change(0, 0) without a green", new PinLanes().change(0, 0), UNKNOWN);
    }

    private static void withoutAGreen() {
        sentence = "STATE: no GREEN";
        PinLanes x = written("p;1w");
        due("all()", x.all(), STATE);
        due("rule()", x.rule(), STATE);
        due("number()", x.number(), STATE);
        due("wins()", x.wins(), STATE);
        due("likely()", x.likely(), STATE);
        due("image()", x.image(), STATE);
        due("period(0)", x.period(0), STATE);
        due("period(1)", x.period(1), STATE);
        due("period(2)", x.period(2), OUTSIDE);
        for (int what = 0; what <= 3; what++) {
            due("best(" + what + ")", x.best(what), STATE);
        }
        due("best(4)", x.best(4), OUTSIDE);
        due("best(-1)", x.best(-1), OUTSIDE);
        due("green(), a page is no green till it is read", x.green(), 1);
        due("all()", x.all(), 0);
        due("rule()", x.rule(), 0);
    }

    private static void countOutside() {
        sentence = "How many: 0 PINS .. 9 how often a GREEN was read. OUTSIDE";
        for (PinLanes x : new PinLanes[] {new PinLanes(), green("p;1w")}) {
            due("count(-1)", x.count(-1), OUTSIDE);
            due("count(0)", x.count(0), x.count(9));
            due("count(10)", x.count(10), OUTSIDE);
            due("count(MIN)", x.count(MIN), OUTSIDE);
            due("count(MAX)", x.count(MAX), OUTSIDE);
        }
    }

    private static void digestWraps() {
        sentence = "h is 1307, then .. 31 times h, and it (as longs, wrapping)";
        long[] empty = new long[10];
        due("digest() of a new one, which does not yet wrap", new PinLanes().digest(), mixed(empty));
        due("digest() of a new one", new PinLanes().digest(), 1071254171083906907L);
        PinLanes x = written("x");
        long[] one = {'x', 0, 0, 0, 0, 0, 0, 0, 0, 1, 0};
        due("digest() of one letter, which wraps", x.digest(), mixed(one));
        x = green("f,n;1l");
        due("see(0, 1, 1)", x.see(0, 1, 1), 1);
        due("strike(1, 1)", x.strike(1, 1), 1);
        long[] over = {
            3, 0, 1, 0, 0, NONE,
            1, 1, 0, 0, 31, 0,
            1, 0, 1, 0, 0,
            1, 1, 0, 0, 0,
            0, 1, NONE, 0, 0, 0, 0, 2, 0, 1000000,
            2, 2, 1, 1, 1, 0, 1, 1, 0, 1,
        };
        due("digest(), no strike any more, NONE among the numbers", x.digest(), mixed(over));
        due("ball(2), rows and periods that are not 0", x.ball(2), 1);
        long[] other = over.clone();
        other[28] = 1;
        other[29] = 20;
        other[30] = 20;
        other[35] = 2;
        due("digest(), by another ball", x.digest(), mixed(other));
    }

    // ---- how it is asked

    private static void due(String call, long got, long want) {
        asked++;
        if (got != want) {
            wrong++;
            System.out.println("\"" + sentence + "\": " + call + " answered " + got + ", due is " + want);
        }
    }

    private static void write(PinLanes x, String text) {
        for (int i = 0; i < text.length(); i++) {
            x.letter(text.charAt(i));
        }
    }

    private static PinLanes written(String text) {
        PinLanes x = new PinLanes();
        write(x, text);
        return x;
    }

    private static PinLanes green(String text) {
        PinLanes x = written(text);
        due("green() of " + text, x.green() > 0 ? 1 : 0, 1);
        return x;
    }

    private static void isGreen(String text, int pins, int lanes) {
        PinLanes x = written(text);
        due("fault() of " + text, x.fault(), text.length());
        due("green() of " + text, x.green(), pins);
        due("count(0) of " + text, x.count(0), pins);
        due("count(1) of " + text, x.count(1), lanes);
        due("count(2) of " + text, x.count(2), pins);
        due("count(8) of " + text, x.count(8), 0);
    }

    private static void isNoGreen(String text, int place) {
        PinLanes x = written(text);
        due("fault() of " + text, x.fault(), place);
        due("green() of " + text, x.green(), STATE);
        due("count(0) of " + text, x.count(0), 0);
        due("count(8) of " + text, x.count(8), text.length());
        due("count(9) of " + text, x.count(9), 0);
    }

    /** Of all letters that can come, only these are right behind that text. */
    private static void only(String text, String right) {
        for (int code = 1; code <= 126; code++) {
            PinLanes x = written(text);
            x.letter(code);
            boolean isRight = right.indexOf(code) >= 0;
            due("fault() of " + text + " and code " + code, x.fault(), text.length() + (isRight ? 1 : 0));
        }
    }

    /** Without longs, so that it is seen that these wrap as they should. */
    private static long mixed(long[] numbers) {
        BigInteger h = BigInteger.valueOf(1307);
        for (long number : numbers) {
            h = h.multiply(BigInteger.valueOf(31)).add(BigInteger.valueOf(number));
        }
        return h.longValue();
    }
}
