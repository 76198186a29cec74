/** Each promise of the document by hand: ordinary inputs, edges and wrong inputs. */
public final class PromiseTest {
    private static final int BUY = 0;
    private static final int SELL = 1;
    private static final int HUGE = 1_000_000_000;
    private static int wrong = 0;
    private static int looked = 0;

    private interface Call {
        long run();
    }

    private interface Act {
        void run();
    }

    private static String answerOf(Call call) {
        try {
            return Long.toString(call.run());
        } catch (RuntimeException e) {
            return e.getClass().getSimpleName();
        }
    }

    private static void look(String what, String got, String want) {
        looked++;
        if (!got.equals(want)) {
            wrong++;
            System.out.println(what + " answered " + got + ", due is " + want);
        }
    }

    private static void is(String what, long want, Call call) {
        look(what, answerOf(call), Long.toString(want));
    }

    private static void does(String what, Act act) {
        is(what, 0, () -> { act.run(); return 0; });
    }

    private static void badArgument(String what, Call call) {
        look(what, answerOf(call), "IllegalArgumentException");
    }

    private static void badArgumentAct(String what, Act act) {
        badArgument(what, () -> { act.run(); return 0; });
    }

    private static void badState(String what, Call call) {
        look(what, answerOf(call), "IllegalStateException");
    }

    private static void badStateAct(String what, Act act) {
        badState(what, () -> { act.run(); return 0; });
    }

    /** An object whose members have all the collateral there can be. */
    private static AuctionHour rich(int n) {
        AuctionHour x = new AuctionHour(n);
        for (int p = 0; p < n; p++) {
            x.collateral(p, HUGE);
        }
        return x;
    }

    private static void sealAll(AuctionHour x, int n) {
        for (int p = 0; p < n; p++) {
            x.seal(p);
        }
    }

    private static void threeRounds(AuctionHour x, int n) {
        sealAll(x, n);
        x.round();
        x.round();
        x.round();
    }

    public static void main(String[] args) {
        newObject();
        collateral();
        order();
        needs();
        tenEntries();
        block();
        seal();
        liar();
        tell();
        round();
        vector();
        vectorOfSplitMember();
        liesInRoundTwo();
        liesInRoundThree();
        equalBooks();
        clear();
        prices();
        sharing();
        blocksTaken();
        blocksThatDoNotFit();
        sameWelfare();
        firstEightBlocks();
        fillAndWelfareErrors();
        meter();
        balance();
        nextDay();
        System.out.println(looked + " answers looked at, " + wrong + " not as due");
        if (wrong != 0) {
            System.exit(1);
        }
    }

    private static void newObject() {
        for (int n : new int[] {0, 7, -1, 1, Integer.MAX_VALUE, Integer.MIN_VALUE}) {
            AuctionHour x = new AuctionHour(n);
            badArgument("P1 one member: seal(1)", () -> x.seal(1));
            is("P1 one member: seal(0)", 1, () -> x.seal(0));
            is("P1 one member: round()", 1, x::round);
        }
        for (int n = 2; n <= 6; n++) {
            AuctionHour x = new AuctionHour(n);
            int last = n - 1;
            badArgument("P1 seal(n)", () -> x.seal(last + 1));
            is("P1 seal(n - 1)", 1, () -> x.seal(last));
        }
        AuctionHour x = new AuctionHour(2);
        is("P1 collateral 0, buying at 1", 0, () -> x.order(1, -1, 0, BUY, 1, 1));
        is("P1 collateral 0, selling at -1", 0, () -> x.order(1, -1, 0, SELL, 1, -1));
        is("P1 collateral 0, buying at 0", 4, () -> x.order(1, -1, 0, BUY, 1, 0));
    }

    private static void collateral() {
        AuctionHour x = new AuctionHour(2);
        does("P2 least", () -> x.collateral(0, 0));
        does("P2 greatest", () -> x.collateral(0, HUGE));
        badArgumentAct("P2 below", () -> x.collateral(0, -1));
        badArgumentAct("P2 above", () -> x.collateral(0, HUGE + 1));
        badArgumentAct("P2 member -1", () -> x.collateral(-1, 5));
        badArgumentAct("P2 member n", () -> x.collateral(2, 5));
        does("P2 the last one counts", () -> x.collateral(0, 10));
        is("P2 need 11", 0, () -> x.order(0, -1, 0, BUY, 1, 11));
        badStateAct("P2 what was left out was sent, too", () -> x.collateral(0, 100));
        is("P2 need 10", 4, () -> x.order(0, -1, 0, BUY, 1, 10));
        badStateAct("P2 sent", () -> x.collateral(0, 100));
        badArgumentAct("P2 wrong amount, looked at first", () -> x.collateral(0, -1));
        does("P2 the other one has not sent", () -> x.collateral(1, 7));
        x.seal(1);
        badStateAct("P2 sealed", () -> x.collateral(1, 7));
        x.nextDay();
        does("P2 another day", () -> x.collateral(1, 8));
    }

    private static void order() {
        AuctionHour x = rich(2);
        badArgument("P3 member -1", () -> x.order(-1, -1, 0, BUY, 1, 1));
        badArgument("P3 member n", () -> x.order(2, -1, 0, BUY, 1, 1));
        badArgument("P3 operator -2", () -> x.order(0, -2, 0, BUY, 1, 1));
        badArgument("P3 operator 4", () -> x.order(0, 4, 0, BUY, 1, 1));
        badArgument("P3 hour -1", () -> x.order(0, -1, -1, BUY, 1, 1));
        badArgument("P3 hour 3", () -> x.order(0, -1, 3, BUY, 1, 1));
        badArgument("P3 side -1", () -> x.order(0, -1, 0, -1, 1, 1));
        badArgument("P3 side 2", () -> x.order(0, -1, 0, 2, 1, 1));
        badArgument("P3 quantity 0", () -> x.order(0, -1, 0, BUY, 0, 1));
        badArgument("P3 quantity 1001", () -> x.order(0, -1, 0, BUY, 1001, 1));
        badArgument("P3 limit -5001", () -> x.order(0, -1, 0, BUY, 1, -5001));
        badArgument("P3 limit 40001", () -> x.order(0, -1, 0, BUY, 1, 40001));
        does("P3 wrong ones send nothing", () -> x.collateral(0, HUGE));
        is("P3 all", 4, () -> x.order(0, -1, 2, SELL, 1000, -5000));
        is("P3 one", 1, () -> x.order(0, 3, 0, BUY, 1, 40000));
        x.seal(0);
        badState("P3 sealed", () -> x.order(0, 0, 0, BUY, 1, 1));
        badArgument("P3 wrong hour of a sealed one", () -> x.order(0, 0, 3, BUY, 1, 1));
        badArgument("P3 wrong side of a sealed one", () -> x.order(0, 0, 0, 2, 1, 1));
        is("P3 the other one", 1, () -> x.order(1, 0, 0, BUY, 1, 1));
    }

    private static void needs() {
        AuctionHour x = new AuctionHour(1);
        x.collateral(0, 1000);
        is("P3 need 600 at operator 2", 1, () -> x.order(0, 2, 0, BUY, 6, 100));
        is("P3 need 401 more is too much at operator 2 alone", 3, () -> x.order(0, -1, 0, SELL, 401, -1));
        is("P3 need 400 more", 1, () -> x.order(0, 2, 1, SELL, 4, -100));
        is("P3 no room", 0, () -> x.order(0, 2, 1, BUY, 1, 1));
        is("P3 selling above 0 needs nothing", 4, () -> x.order(0, -1, 1, SELL, 1000, 40000));
        is("P3 buying below 0 needs nothing", 4, () -> x.order(0, -1, 1, BUY, 1000, -5000));
        is("P4 a block needs as many times its hours", 0, () -> x.block(0, 0, 2, BUY, 2, 100));
        is("P4 599", 1, () -> x.block(0, 0, 5, BUY, 1, 599));
        is("P4 600 at 1 but not at 0 and 2", 2, () -> x.block(0, -1, 6, SELL, 1, -299));
        AuctionHour y = new AuctionHour(1);
        y.collateral(0, HUGE);
        for (int k = 0; k < 8; k++) {
            is("P4 greatest need", 4, () -> y.block(0, -1, 2, BUY, 1000, 40000));
        }
        is("P4 needs of 1,080,000,000 are too much", 0, () -> y.block(0, -1, 2, BUY, 1000, 40000));
        is("P3 needs of 1,000,000,000 are not", 4, () -> y.order(0, -1, 2, BUY, 1000, 40000));
        is("P3 but one more is", 0, () -> y.order(0, -1, 2, BUY, 1, 1));
    }

    private static void tenEntries() {
        AuctionHour x = rich(1);
        for (int k = 0; k < 9; k++) {
            int limit = k;
            is("P3 entry", 1, () -> x.order(0, 1, 0, BUY, 1, limit));
        }
        is("P4 the tenth", 1, () -> x.block(0, 1, 1, BUY, 1, 9));
        is("P3 the eleventh at operator 1 alone", 3, () -> x.order(0, -1, 0, BUY, 1, 10));
        is("P4 the eleventh at operator 1 alone", 0, () -> x.block(0, 1, 0, BUY, 1, 10));
    }

    private static void block() {
        AuctionHour x = rich(2);
        int[] good = {0, 1, 2, 5, 6, 10};
        int[] bad = {-1, -4, 3, 4, 7, 8, 9, 11, 12, 13, 15, 100, Integer.MAX_VALUE, Integer.MIN_VALUE};
        for (int hours : good) {
            is("P4 hours " + hours, 4, () -> x.block(0, -1, hours, BUY, 1, 1));
        }
        for (int hours : bad) {
            badArgument("P4 hours " + hours, () -> x.block(0, -1, hours, BUY, 1, 1));
        }
        badArgument("P4 member -1", () -> x.block(-1, -1, 0, BUY, 1, 1));
        badArgument("P4 member n", () -> x.block(2, -1, 0, BUY, 1, 1));
        badArgument("P4 operator -2", () -> x.block(0, -2, 0, BUY, 1, 1));
        badArgument("P4 operator 4", () -> x.block(0, 4, 0, BUY, 1, 1));
        badArgument("P4 side 2", () -> x.block(0, -1, 0, 2, 1, 1));
        badArgument("P4 side -1", () -> x.block(0, -1, 0, -1, 1, 1));
        badArgument("P4 quantity 0", () -> x.block(0, -1, 0, BUY, 0, 1));
        badArgument("P4 quantity 1001", () -> x.block(0, -1, 0, BUY, 1001, 1));
        badArgument("P4 limit -5001", () -> x.block(0, -1, 0, BUY, 1, -5001));
        badArgument("P4 limit 40001", () -> x.block(0, -1, 0, BUY, 1, 40001));
        is("P4 one operator", 1, () -> x.block(0, 0, 10, SELL, 1000, -5000));
        badStateAct("P4 sends", () -> x.collateral(0, 1));
        x.seal(0);
        badState("P4 sealed", () -> x.block(0, -1, 0, BUY, 1, 1));
        badArgument("P4 wrong hours of a sealed one", () -> x.block(0, -1, 4, BUY, 1, 1));
    }

    private static void seal() {
        AuctionHour x = new AuctionHour(3);
        badArgument("P5 member -1", () -> x.seal(-1));
        badArgument("P5 member n", () -> x.seal(3));
        is("P5 first", 1, () -> x.seal(2));
        badState("P5 again", () -> x.seal(2));
        is("P5 second", 2, () -> x.seal(0));
        is("P5 third", 3, () -> x.seal(1));
        badState("P5 all are", () -> x.seal(1));
    }

    private static void liar() {
        AuctionHour x = new AuctionHour(1);
        badArgumentAct("P6 operator -1", () -> x.liar(-1));
        badArgumentAct("P6 operator 4", () -> x.liar(4));
        does("P6 before anybody is sealed", () -> x.liar(0));
        badStateAct("P6 the same one again", () -> x.liar(0));
        badStateAct("P6 another one", () -> x.liar(3));
        badArgumentAct("P6 wrong one, looked at first", () -> x.liar(4));
        x.nextDay();
        x.seal(0);
        does("P6 another day, sealed", () -> x.liar(3));
        x.nextDay();
        x.seal(0);
        x.round();
        badStateAct("P6 a round is over", () -> x.liar(1));
        badArgumentAct("P6 wrong one, looked at first", () -> x.liar(-1));
        badStateAct("P6 so there is none", () -> x.tell(0, 1, 0, 0));
    }

    private static void tell() {
        AuctionHour x = new AuctionHour(2);
        badStateAct("P7 no liar", () -> x.tell(0, 1, 0, 0));
        x.liar(1);
        badStateAct("P7 before round 1", () -> x.tell(0, 1, 0, 0));
        sealAll(x, 2);
        badStateAct("P7 round 1 comes next", () -> x.tell(0, 1, 0, 0));
        badStateAct("P7 the state before to and about", () -> x.tell(1, 1, 0, 0));
        badArgumentAct("P7 the item before the state", () -> x.tell(0, 1, 0, 8));
        x.round();
        badTells(x);
        does("P7 round 2", () -> x.tell(0, 1, 0, 0));
        does("P7 last item", () -> x.tell(3, 1, 1, 7));
        does("P7 empty one", () -> x.tell(2, 1, 1, -1));
        badArgumentAct("P7 round 2, to the liar", () -> x.tell(1, 1, 0, 0));
        badArgumentAct("P7 round 2, about another", () -> x.tell(0, 2, 0, 0));
        badArgumentAct("P7 round 2, about to", () -> x.tell(0, 0, 0, 0));
        x.round();
        badTells(x);
        does("P7 round 3", () -> x.tell(0, 2, 0, 0));
        badArgumentAct("P7 round 3, to the liar", () -> x.tell(1, 2, 0, 0));
        badArgumentAct("P7 round 3, about the liar", () -> x.tell(0, 1, 0, 0));
        badArgumentAct("P7 round 3, about to", () -> x.tell(0, 0, 0, 0));
        x.round();
        badStateAct("P7 none comes next", () -> x.tell(0, 2, 0, 0));
        badStateAct("P7 none comes next, to the liar", () -> x.tell(1, 2, 0, 0));
        badTells(x);
    }

    private static void badTells(AuctionHour x) {
        badArgumentAct("P7 to -1", () -> x.tell(-1, 1, 0, 0));
        badArgumentAct("P7 to 4", () -> x.tell(4, 1, 0, 0));
        badArgumentAct("P7 about -1", () -> x.tell(0, -1, 0, 0));
        badArgumentAct("P7 about 4", () -> x.tell(0, 4, 0, 0));
        badArgumentAct("P7 member -1", () -> x.tell(0, 1, -1, 0));
        badArgumentAct("P7 member n", () -> x.tell(0, 1, 2, 0));
        badArgumentAct("P7 item -2", () -> x.tell(0, 1, 0, -2));
        badArgumentAct("P7 item 4 * n", () -> x.tell(0, 1, 0, 8));
    }

    private static void round() {
        AuctionHour x = new AuctionHour(2);
        badState("P8 nobody is sealed", x::round);
        x.seal(0);
        badState("P8 one is not sealed", x::round);
        x.seal(1);
        is("P8 round 1", 1, x::round);
        is("P8 round 2", 2, x::round);
        is("P8 round 3", 3, x::round);
        badState("P8 no round 4", x::round);
    }

    private static void vector() {
        AuctionHour x = rich(2);
        x.order(1, -1, 2, SELL, 30, -40);
        x.block(1, -1, 6, BUY, 50, 60);
        badState("P9 no round yet", () -> x.vector(0, 1, 0, 0));
        badState("P9 no round yet, looked at first", () -> x.vector(9, 9, 9, 9));
        sealAll(x, 2);
        x.round();
        x.round();
        badState("P9 two rounds", () -> x.vector(0, 1, 0, 0));
        badState("P9 two rounds, looked at first", () -> x.vector(-1, 1, 0, 0));
        x.round();
        long[][] due = {{2, SELL, 30, -40}, {100 + 6, BUY, 50, 60}};
        for (int i = 0; i < 2; i++) {
            for (int what = 0; what < 4; what++) {
                int entry = i;
                int asked = what;
                is("P9 entry " + i + " what " + what, due[i][what], () -> x.vector(3, 1, entry, asked));
            }
        }
        is("P9 how many", 2, () -> x.vector(2, 1, -77, 4));
        is("P9 how many of none", 0, () -> x.vector(2, 0, 77, 4));
        badArgument("P9 operator -1", () -> x.vector(-1, 1, 0, 0));
        badArgument("P9 operator 4", () -> x.vector(4, 1, 0, 4));
        badArgument("P9 member -1", () -> x.vector(0, -1, 0, 4));
        badArgument("P9 member n", () -> x.vector(0, 2, 0, 4));
        badArgument("P9 what -1", () -> x.vector(0, 1, 0, -1));
        badArgument("P9 what 5", () -> x.vector(0, 1, 0, 5));
        badArgument("P9 entry -1", () -> x.vector(0, 1, -1, 0));
        badArgument("P9 entry 2 of 2", () -> x.vector(0, 1, 2, 0));
        badArgument("P9 entry 0 of none", () -> x.vector(0, 0, 0, 3));
    }

    /** Three equal books of four make the vector, two and two do not. */
    private static void vectorOfSplitMember() {
        AuctionHour x = rich(2);
        for (int k = 0; k < 3; k++) {
            x.order(0, k, 0, BUY, 5, 10);
        }
        x.order(0, 3, 0, BUY, 6, 10);
        x.order(1, 0, 0, BUY, 5, 10);
        x.order(1, 1, 0, BUY, 5, 10);
        x.order(1, 2, 0, BUY, 5, 11);
        x.order(1, 3, 0, BUY, 5, 11);
        threeRounds(x, 2);
        for (int k = 0; k < 4; k++) {
            int op = k;
            is("P9 three of four", 5, () -> x.vector(op, 0, 0, 2));
            is("P9 two and two", 0, () -> x.vector(op, 1, 0, 4));
        }
    }

    /** Member 0 sent the same to 0, 1 and 3 and nothing to 2; member 1 gives the liar books to tell. */
    private static AuctionHour split() {
        AuctionHour x = rich(2);
        x.order(0, 0, 0, BUY, 5, 10);
        x.order(0, 1, 0, BUY, 5, 10);
        x.order(0, 3, 0, BUY, 5, 10);
        x.order(1, 0, 0, BUY, 7, 20);
        x.order(1, 1, 0, BUY, 8, 20);
        x.liar(3);
        sealAll(x, 2);
        x.round();
        return x;
    }

    private static void entriesOf(String what, AuctionHour x, int... due) {
        for (int k = 0; k < 4; k++) {
            int op = k;
            is(what + ", operator " + op, due[op], () -> x.vector(op, 0, 0, 4));
        }
    }

    private static void liesInRoundTwo() {
        AuctionHour silent = split();
        silent.round();
        silent.round();
        entriesOf("P7 a liar that tells no lie", silent, 1, 1, 1, 1);

        AuctionHour one = split();
        one.tell(0, 3, 0, -1);
        one.round();
        one.round();
        entriesOf("P7 one of three is told a lie", one, 1, 1, 1, 1);

        AuctionHour two = split();
        two.tell(0, 3, 0, -1);
        two.tell(2, 3, 0, -1);
        two.round();
        two.round();
        entriesOf("P7 two of three are told a lie", two, 0, 0, 0, 1);

        AuctionHour taken = split();
        taken.tell(0, 3, 0, -1);
        taken.tell(2, 3, 0, -1);
        taken.tell(2, 3, 0, 4 * 0 + 1);
        taken.round();
        taken.round();
        entriesOf("P7 the last lie told counts", taken, 1, 1, 1, 1);

        AuctionHour three = split();
        three.tell(1, 3, 0, 4 * 1 + 0);
        three.tell(2, 3, 0, 4 * 1 + 1);
        three.round();
        three.round();
        entriesOf("P7 no two are equal", three, 0, 0, 0, 1);

        AuctionHour other = split();
        other.tell(0, 3, 1, 4 * 0 + 0);
        other.tell(1, 3, 1, 4 * 0 + 0);
        other.round();
        other.round();
        entriesOf("P7 a lie about another member", other, 1, 1, 1, 1);
    }

    /** What is passed on about an honest operator is outvoted by what that one and the other say. */
    private static void liesInRoundThree() {
        AuctionHour x = split();
        x.round();
        for (int to = 0; to < 3; to++) {
            for (int about = 0; about < 3; about++) {
                if (to != about) {
                    x.tell(to, about, 0, 4 * 1 + 1);
                }
            }
        }
        x.round();
        entriesOf("P7 lies passed on", x, 1, 1, 1, 1);
    }

    /** A block of one hour is not the order of that hour, and the order of entries matters. */
    private static void equalBooks() {
        AuctionHour x = rich(3);
        x.order(0, 0, 1, SELL, 5, 10);
        x.order(0, 1, 1, SELL, 5, 10);
        x.block(0, 2, 5, SELL, 5, 10);
        x.block(0, 3, 5, SELL, 5, 10);
        for (int k = 0; k < 4; k++) {
            boolean first = k < 2;
            x.order(1, k, 0, BUY, first ? 1 : 2, 10);
            x.order(1, k, 0, BUY, first ? 2 : 1, 10);
            x.order(2, k, 0, BUY, 1, 10);
            if (k == 3) {
                x.order(2, k, 0, BUY, 1, 10);
            }
        }
        threeRounds(x, 3);
        is("P9 order and block differ", 0, () -> x.vector(0, 0, 0, 4));
        is("P9 another order of entries differs", 0, () -> x.vector(0, 1, 0, 4));
        is("P9 a longer book differs", 1, () -> x.vector(3, 2, 0, 4));
    }

    private static void clear() {
        AuctionHour x = new AuctionHour(1);
        badArgument("P10 operator -1", () -> x.clear(-1));
        badArgument("P10 operator 4", () -> x.clear(4));
        badState("P10 no rounds", () -> x.clear(0));
        x.seal(0);
        x.round();
        x.round();
        badState("P10 two rounds", () -> x.clear(0));
        x.round();
        badState("P11 not cleared", () -> x.price(0, 0));
        is("P10 nothing", 0, () -> x.clear(0));
        is("P10 again", 0, () -> x.clear(0));
        badArgument("P10 operator 4 after three rounds", () -> x.clear(4));
        for (int h = 0; h < 3; h++) {
            int hour = h;
            is("P11 no orders", 17500, () -> x.price(0, hour));
            is("P12 no orders", 0, () -> x.traded(0, hour));
        }
        is("P14 no orders", 0, () -> x.welfare(0));
        badState("P11 another has not cleared", () -> x.price(1, 0));
        badState("P12 another has not cleared", () -> x.traded(1, 0));
        badState("P13 another has not cleared", () -> x.fill(1, 0, 0));
        badState("P14 another has not cleared", () -> x.welfare(1));
        badState("P16 another has not cleared", () -> x.balance(1, 0));
    }

    private static void prices() {
        AuctionHour x = rich(2);
        x.order(0, -1, 0, BUY, 10, -3);
        x.order(1, -1, 0, SELL, 10, -6);
        x.order(0, -1, 1, BUY, 10, 40000);
        x.order(1, -1, 2, SELL, 10, -5000);
        threeRounds(x, 2);
        x.clear(1);
        is("P11 the middle of -6 and -3, down", -5, () -> x.price(1, 0));
        is("P12 both whole", 10, () -> x.traded(1, 0));
        is("P14 10 * -3 + 10 * 6", 30, () -> x.welfare(1));
        is("P11 only 40,000 serves", 40000, () -> x.price(1, 1));
        is("P12 nobody sells", 0, () -> x.traded(1, 1));
        is("P11 only -5,000 serves", -5000, () -> x.price(1, 2));
        is("P13 nobody buys", 0, () -> x.fill(1, 1, 1));
        badArgument("P11 operator -1", () -> x.price(-1, 0));
        badArgument("P11 operator 4", () -> x.price(4, 0));
        badArgument("P11 hour -1", () -> x.price(1, -1));
        badArgument("P11 hour 3", () -> x.price(1, 3));
        badArgument("P11 the hour before the state", () -> x.price(0, 3));
        badArgument("P12 operator -1", () -> x.traded(-1, 0));
        badArgument("P12 operator 4", () -> x.traded(4, 0));
        badArgument("P12 hour -1", () -> x.traded(1, -1));
        badArgument("P12 hour 3", () -> x.traded(1, 3));
        badArgument("P12 the hour before the state", () -> x.traded(0, 3));
    }

    private static void sharing() {
        AuctionHour x = rich(3);
        // Hour 0: buyers at 40 share 10; the earlier order is the earlier member's, whoever sent first.
        x.order(1, -1, 0, BUY, 10, 40);
        x.order(0, -1, 0, BUY, 10, 40);
        x.order(1, -1, 0, BUY, 10, 40);
        x.order(2, -1, 0, SELL, 10, 0);
        // Hour 1: sellers at 7 share 11 - 1: 10 * 10 / 33 = 3, 3 * 10 / 33 = 0, 20 * 10 / 33 = 6.
        x.order(0, -1, 1, SELL, 10, 7);
        x.order(0, -1, 1, SELL, 3, 7);
        x.order(1, -1, 1, SELL, 20, 7);
        x.order(1, -1, 1, SELL, 1, 6);
        x.order(1, -1, 1, SELL, 5, 8);
        x.order(2, -1, 1, BUY, 11, 9);
        x.order(2, -1, 1, BUY, 500, 6);
        threeRounds(x, 3);
        x.clear(0);
        is("P11 hour 0", 40, () -> x.price(0, 0));
        is("P13 left over to the earlier order", 4, () -> x.fill(0, 0, 0));
        is("P13 first of member 1", 3, () -> x.fill(0, 1, 0));
        is("P13 second of member 1", 3, () -> x.fill(0, 1, 1));
        is("P13 sure", 10, () -> x.fill(0, 2, 0));
        is("P11 hour 1", 7, () -> x.price(0, 1));
        is("P12 hour 1", 11, () -> x.traded(0, 1));
        is("P13 remainder 1", 3, () -> x.fill(0, 0, 1));
        is("P13 remainder 30", 1, () -> x.fill(0, 0, 2));
        is("P13 remainder 2", 6, () -> x.fill(0, 1, 2));
        is("P13 below the price", 1, () -> x.fill(0, 1, 3));
        is("P13 above the price", 0, () -> x.fill(0, 1, 4));
        is("P13 buys whole", 11, () -> x.fill(0, 2, 1));
        is("P13 buys below the price", 0, () -> x.fill(0, 2, 2));
        is("P14", 10 * 40 - 0 + 11 * 9 - 10 * 7 - 6, () -> x.welfare(0));
    }

    /** Two blocks meet over all hours, where orders hold the price between their limits. */
    private static void blocksTaken() {
        AuctionHour x = rich(2);
        for (int h = 0; h < 3; h++) {
            x.order(0, -1, h, BUY, 1, 75);
            x.order(0, -1, h, SELL, 1, 75);
        }
        x.block(0, -1, 2, BUY, 10, 100);
        x.block(1, -1, 0, SELL, 9, 76);
        x.block(1, -1, 2, SELL, 10, 50);
        threeRounds(x, 2);
        is("P10 blocks 0 and 2", 5, () -> x.clear(2));
        is("P11", 75, () -> x.price(2, 0));
        is("P12 blocks and orders", 11, () -> x.traded(2, 1));
        is("P13 a taken block", 10, () -> x.fill(2, 0, 6));
        is("P13 a block not taken", 0, () -> x.fill(2, 1, 0));
        is("P13 a taken block", 10, () -> x.fill(2, 1, 1));
        is("P13 an order", 1, () -> x.fill(2, 0, 0));
        is("P14 10 * 100 * 3 - 10 * 50 * 3", 1500, () -> x.welfare(2));
        x.meter(1, 0, 10);
        x.meter(1, 1, 10);
        x.meter(1, 2, 10);
        is("P16 sold in each hour", 10 * 75 * 3, () -> x.balance(2, 1));
    }

    private static void blocksThatDoNotFit() {
        AuctionHour x = rich(2);
        x.order(0, -1, 0, BUY, 100, 50);
        x.order(1, -1, 0, SELL, 100, 30);
        x.block(1, -1, 0, SELL, 100, 20);
        x.block(1, -1, 10, SELL, 5, 0);
        threeRounds(x, 2);
        is("P10 one would lose, nobody buys the other", 0, () -> x.clear(0));
        is("P11", 40, () -> x.price(0, 0));
        is("P14", 2000, () -> x.welfare(0));

        // A block loses or does not by the sum over its hours (20 + 40), and a sum of 0 is no loss.
        for (int limit = 29; limit <= 31; limit++) {
            for (int side = BUY; side <= SELL; side++) {
                AuctionHour y = rich(2);
                int early = side == SELL ? 60 : 10;
                for (int h = 0; h < 2; h++) {
                    y.order(0, -1, h, 1 - side, 6, early);
                    y.order(0, -1, h, 1 - side, 5, 20 + 20 * h);
                }
                y.block(1, -1, 1, side, 10, limit);
                threeRounds(y, 2);
                int due = (side == SELL ? limit <= 30 : limit >= 30) ? 1 : 0;
                is("P10 side " + side + " at " + limit, due, () -> y.clear(3));
                is("P13 side " + side + " at " + limit, 10 * due, () -> y.fill(3, 1, 0));
            }
        }

        // Of equal welfare the least number counts: a block that brings nothing is not taken.
        AuctionHour z = rich(2);
        z.order(0, -1, 0, BUY, 100, 20);
        z.order(0, -1, 0, SELL, 1, 20);
        z.block(1, -1, 0, SELL, 10, 20);
        threeRounds(z, 2);
        is("P10 brings nothing", 0, () -> z.clear(3));
    }

    /** Either of two blocks fits alone, both together do not. */
    private static void sameWelfare() {
        for (int second = 39; second <= 41; second++) {
            AuctionHour x = rich(3);
            x.order(0, -1, 0, BUY, 10, 50);
            x.order(1, -1, 0, SELL, 10, 45);
            x.block(1, -1, 0, SELL, 5, 40);
            x.block(2, -1, 0, SELL, 5, second);
            threeRounds(x, 3);
            is("P10 blocks at 40 and " + second, second < 40 ? 2 : 1, () -> x.clear(0));
            is("P11", 45, () -> x.price(0, 0));
            is("P14", 500 - 5 * 45 - 5 * Math.min(40, second), () -> x.welfare(0));
        }
    }

    private static void firstEightBlocks() {
        for (int before = 7; before <= 8; before++) {
            AuctionHour x = rich(3);
            x.order(2, -1, 0, BUY, 10, 50);
            x.order(2, -1, 0, SELL, 10, 45);
            x.block(1, -1, 0, SELL, 5, 40);
            for (int k = 0; k < before; k++) {
                x.block(0, -1, 0, BUY, 1, -5000);
            }
            threeRounds(x, 3);
            boolean counts = before < 8;
            is("P10 behind " + before, counts ? 128 : 0, () -> x.clear(0));
            is("P11 behind " + before, counts ? 45 : 47, () -> x.price(0, 0));
            is("P13 behind " + before, counts ? 5 : 0, () -> x.fill(0, 1, 0));
        }
    }

    private static void fillAndWelfareErrors() {
        AuctionHour x = rich(2);
        x.order(0, -1, 0, BUY, 10, 50);
        threeRounds(x, 2);
        badArgument("P13 operator before the state", () -> x.fill(4, 0, 0));
        badArgument("P13 member before the state", () -> x.fill(0, 2, 0));
        badArgument("P13 entry 10 before the state", () -> x.fill(0, 0, 10));
        badArgument("P13 entry -1 before the state", () -> x.fill(0, 0, -1));
        badState("P13 the state before an entry that is none", () -> x.fill(0, 0, 9));
        badState("P14 not cleared", () -> x.welfare(0));
        badArgument("P14 operator before the state", () -> x.welfare(4));
        badArgument("P16 member before the state", () -> x.balance(0, 2));
        x.clear(0);
        is("P13", 0, () -> x.fill(0, 0, 0));
        badArgument("P13 entry 1 of 1", () -> x.fill(0, 0, 1));
        badArgument("P13 entry 9 of 1", () -> x.fill(0, 0, 9));
        badArgument("P13 entry 10", () -> x.fill(0, 0, 10));
        badArgument("P13 entry 0 of none", () -> x.fill(0, 1, 0));
        badArgument("P13 operator -1", () -> x.fill(-1, 0, 0));
        badArgument("P13 member -1", () -> x.fill(0, -1, 0));
        badArgument("P14 operator -1", () -> x.welfare(-1));
        badArgument("P14 operator 4", () -> x.welfare(4));
        is("P14", 0, () -> x.welfare(0));
    }

    private static void meter() {
        AuctionHour x = new AuctionHour(2);
        badArgumentAct("P15 member -1", () -> x.meter(-1, 0, 0));
        badArgumentAct("P15 member n", () -> x.meter(2, 0, 0));
        badArgumentAct("P15 hour -1", () -> x.meter(0, -1, 0));
        badArgumentAct("P15 hour 3", () -> x.meter(0, 3, 0));
        badArgumentAct("P15 below", () -> x.meter(0, 0, -1_000_001));
        badArgumentAct("P15 above", () -> x.meter(0, 0, 1_000_001));
        does("P15 before anything else", () -> x.meter(0, 0, 1_000_000));
        does("P15 last hour", () -> x.meter(1, 2, -1_000_000));
        threeRounds(x, 2);
        x.clear(0);
        is("P15 delivered", 1_000_000L * (17500 - 50), () -> x.balance(0, 0));
        is("P15 taken", -1_000_000L * (17500 + 50), () -> x.balance(0, 1));
        is("P16 FEES", 1_000_000L * 100, () -> x.balance(0, -1));
        does("P15 the last one counts", () -> x.meter(0, 0, 0));
        is("P15 the last one counts", 0, () -> x.balance(0, 0));
    }

    private static void balance() {
        AuctionHour x = rich(3);
        x.order(0, -1, 0, BUY, 10, 40);
        x.order(1, -1, 0, SELL, 10, 40);
        x.order(1, -1, 1, SELL, 4, -20);
        x.order(2, -1, 1, BUY, 4, -20);
        threeRounds(x, 3);
        badState("P16 not cleared", () -> x.balance(0, -1));
        x.clear(3);
        x.clear(0);
        for (int h = 0; h < 3; h++) {
            x.meter(0, h, h == 0 ? -10 : 0);
            x.meter(1, h, h == 0 ? 10 : h == 1 ? 4 : 0);
            x.meter(2, h, h == 1 ? -4 : 0);
        }
        is("P16 bought as metered", -400, () -> x.balance(3, 0));
        is("P16 sold as metered", 400 - 80, () -> x.balance(3, 1));
        is("P16 bought below 0", 80, () -> x.balance(3, 2));
        is("P16 no FEES", 0, () -> x.balance(3, -1));
        x.meter(0, 0, -9);
        x.meter(1, 1, 1);
        is("P16 1 more", -400 + (40 - 50), () -> x.balance(3, 0));
        is("P16 3 less", 400 - 80 - 3 * (-20 + 50), () -> x.balance(3, 1));
        is("P16 FEES", 400 + 10 - 400 + 80 + 90 - 80, () -> x.balance(3, -1));
        is("P16 meters are the same at all", -410, () -> x.balance(0, 0));
        badArgument("P16 operator -1", () -> x.balance(-1, 0));
        badArgument("P16 operator 4", () -> x.balance(4, 0));
        badArgument("P16 member -2", () -> x.balance(3, -2));
        badArgument("P16 member n", () -> x.balance(3, 3));
        badState("P16 another has not cleared", () -> x.balance(1, -1));
    }

    private static void nextDay() {
        AuctionHour x = new AuctionHour(2);
        x.collateral(0, 500);
        x.order(0, -1, 0, BUY, 5, 100);
        x.order(1, -1, 0, SELL, 5, 100);
        x.meter(0, 1, 7);
        x.liar(2);
        sealAll(x, 2);
        x.round();
        x.tell(0, 2, 0, -1);
        x.tell(1, 2, 0, -1);
        x.tell(3, 2, 0, -1);
        x.round();
        x.round();
        x.clear(0);
        x.nextDay();
        badState("P17 no round", () -> x.vector(0, 0, 0, 4));
        badState("P17 not cleared", () -> x.price(0, 0));
        badState("P17 nobody sealed", x::round);
        is("P17 collaterals stay", 4, () -> x.order(0, -1, 0, BUY, 5, 100));
        is("P17 collaterals stay", 0, () -> x.order(0, -1, 0, BUY, 1, 1));
        for (int k = 0; k < 2; k++) {
            x.order(1, k, 1, SELL, 3, 100);
        }
        x.order(1, 2, 1, SELL, 3, 100);
        does("P17 no liar", () -> x.liar(2));
        is("P17 nobody sealed", 1, () -> x.seal(1));
        is("P17 nobody sealed", 2, () -> x.seal(0));
        is("P17 no round", 1, x::round);
        x.round();
        x.round();
        is("P17 no lies, no books", 1, () -> x.vector(0, 0, 0, 4));
        is("P17 no lies, no books", 1, () -> x.vector(3, 1, 0, 4));
        is("P17 the new book", 1, () -> x.vector(3, 1, 0, 0));
        x.clear(0);
        is("P17 meters 0", 0, () -> x.balance(0, -1));
        x.nextDay();
        x.nextDay();
        threeRounds(x, 2);
        is("P17 no books", 0, () -> x.vector(0, 0, 0, 4));
        does("P17 twice is another day, too", x::nextDay);
        does("P17 collateral may be set", () -> x.collateral(0, 1));
    }
}
