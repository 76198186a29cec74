import java.util.function.Consumer;

/** What another day leaves and what it takes away: promise 17. */
public final class NextDayBoundaryTest {
    private static final int BUY = Sentence.BUY;
    private static final int SELL = Sentence.SELL;
    private static final int ALL = -1;

    public static void main(String[] args) {
        noBooks();
        noEntriesOfLongerBooks();
        noNeed();
        nobodyHasSent();
        nobodySealed();
        noLiar();
        noLies();
        metersZero();
        noRound();
        notCleared();
        clearedAnew();
        noLimitsOfYesterday();
        collateralsStay();
        membersStay();
        atAnyTime();
        Sentence.end();
    }

    private static void noBooks() {
        Sentence s = new Sentence("P17: no books: none in the vectors, and ten places in each");
        AuctionHour x = new AuctionHour(2);
        for (int k = 0; k < 11; k++) {
            s.is(k < 10 ? 4 : 0, () -> x.order(0, ALL, 0, BUY, 1, 0));
        }
        s.is(1, () -> x.order(1, 2, 0, BUY, 1, 0));
        Days.agree(x, 2);
        s.goes(x::nextDay);
        Days.agree(x, 2);
        s.same(Days.entries(x, 0), "0 0 0 0");
        s.same(Days.entries(x, 1), "0 0 0 0");
        s.goes(x::nextDay);
        for (int k = 0; k < 11; k++) {
            s.is(k < 10 ? 4 : 0, () -> x.order(0, ALL, 0, BUY, 1, 0));
            s.is(k < 10 ? 4 : 0, () -> x.block(1, ALL, 0, BUY, 1, 0));
        }
    }

    private static void noEntriesOfLongerBooks() {
        Sentence s = new Sentence("P17: no books: a new one has the new entries alone");
        AuctionHour x = new AuctionHour(1);
        for (int k = 0; k < 10; k++) {
            x.block(0, ALL, 2, SELL, 9, 90);
        }
        Days.clearAll(x, 1);
        x.nextDay();
        x.order(0, ALL, 1, BUY, 8, -80);
        Days.clearAll(x, 1);
        s.same(Days.entries(x, 0), "1 1 1 1");
        s.is(1, () -> x.vector(0, 0, 0, 0));
        s.is(BUY, () -> x.vector(0, 0, 0, 1));
        s.is(8, () -> x.vector(0, 0, 0, 2));
        s.is(-80, () -> x.vector(0, 0, 0, 3));
        s.badArgument(() -> x.vector(0, 0, 1, 0));
        s.is(0, () -> x.fill(0, 0, 0));
        s.badArgument(() -> x.fill(0, 0, 1));
    }

    private static void noNeed() {
        Sentence s = new Sentence("P17: no books: what they needed is free again, to the last one");
        AuctionHour x = new AuctionHour(1);
        x.collateral(0, 30);
        for (int day = 0; day < 3; day++) {
            s.is(4, () -> x.order(0, ALL, 0, BUY, 3, 10));
            s.is(0, () -> x.order(0, ALL, 0, BUY, 1, 1));
            s.goes(x::nextDay);
        }
    }

    private static void nobodyHasSent() {
        Sentence s = new Sentence("P17: no books: a collateral may be set (promise 2)");
        AuctionHour x = new AuctionHour(2);
        x.collateral(0, 5);
        x.order(0, ALL, 0, BUY, 1, 5);
        x.order(1, ALL, 0, BUY, 1, 5);
        x.seal(1);
        s.badState(() -> x.collateral(0, 6));
        s.badState(() -> x.collateral(1, 6));
        x.nextDay();
        s.goes(() -> x.collateral(0, 6));
        s.goes(() -> x.collateral(1, 7));
        s.is(0, () -> x.order(0, ALL, 0, BUY, 1, 7));
        s.is(4, () -> x.order(0, ALL, 0, BUY, 1, 6));
        s.is(4, () -> x.order(1, ALL, 0, BUY, 1, 7));
    }

    private static void nobodySealed() {
        Sentence s = new Sentence("P17: nobody sealed");
        for (int sealed = 0; sealed <= 6; sealed++) {
            AuctionHour x = new AuctionHour(6);
            Days.sealAll(x, sealed);
            x.nextDay();
            for (int p = 0; p < 6; p++) {
                int member = p;
                s.badState(x::round);
                s.is(4, () -> x.order(member, ALL, 0, BUY, 1, 0));
                s.is(p + 1, () -> x.seal(member));
            }
            s.is(1, x::round);
        }
    }

    private static void noLiar() {
        Sentence s = new Sentence("P17: no liar");
        for (int rounds = 0; rounds <= 3; rounds++) {
            AuctionHour x = new AuctionHour(1);
            x.liar(2);
            x.seal(0);
            Days.rounds(x, rounds);
            x.nextDay();
            x.seal(0);
            x.round();
            s.badState(() -> x.tell(0, 2, 0, -1));
            x.nextDay();
            s.goes(() -> x.liar(1));
            s.badState(() -> x.liar(2));
            x.seal(0);
            x.round();
            s.goes(() -> x.tell(0, 1, 0, -1));
            s.badArgument(() -> x.tell(0, 2, 0, -1));
        }
    }

    /** The honest operators agree on the member's book when the word of the liar, 3, is like it. */
    private static void dividedDay(AuctionHour x) {
        x.order(0, 0, 0, BUY, 1, 0);
        x.order(0, 1, 0, BUY, 1, 0);
        x.order(0, 2, 0, BUY, 2, 0);
        x.order(0, 3, 0, BUY, 3, 0);
        x.liar(3);
        x.seal(0);
        x.round();
    }

    private static void noLies() {
        Sentence s = new Sentence("P17: no liar: what it was to tell is gone, too");
        AuctionHour x = new AuctionHour(1);
        dividedDay(x);
        x.tell(0, 3, 0, 0);
        x.tell(1, 3, 0, 0);
        Days.rounds(x, 2);
        s.same(Days.entries(x, 0), "1 1 1 0");
        x.nextDay();
        dividedDay(x);
        Days.rounds(x, 2);
        s.same(Days.entries(x, 0), "0 0 0 0");
        x.nextDay();
        // Also where the day ended before the lies were told.
        dividedDay(x);
        x.tell(0, 3, 0, 0);
        x.tell(1, 3, 0, 0);
        x.nextDay();
        dividedDay(x);
        Days.rounds(x, 2);
        s.same(Days.entries(x, 0), "0 0 0 0");
    }

    private static void metersZero() {
        Sentence s = new Sentence("P17: meters 0");
        AuctionHour x = new AuctionHour(6);
        for (int p = 0; p < 6; p++) {
            for (int h = 0; h < 3; h++) {
                x.meter(p, h, 1 + p + h);
            }
        }
        Days.clearAll(x, 6);
        s.is(17_450 * 6, () -> x.balance(0, 0));
        x.nextDay();
        Days.clearAll(x, 6);
        for (int p = -1; p < 6; p++) {
            int member = p;
            s.is(0, () -> x.balance(0, member));
        }
        s.goes(() -> x.meter(5, 2, 1));
        s.is(17_450, () -> x.balance(0, 5));
    }

    private static void noRound() {
        Sentence s = new Sentence("P17: no round");
        for (int rounds = 0; rounds <= 3; rounds++) {
            AuctionHour x = new AuctionHour(1);
            x.seal(0);
            Days.rounds(x, rounds);
            x.nextDay();
            s.badState(() -> x.vector(0, 0, 0, 4));
            s.badState(() -> x.clear(0));
            s.badState(x::round);
            s.goes(() -> x.liar(0));
            s.badState(() -> x.tell(1, 0, 0, -1));
            x.seal(0);
            s.badState(() -> x.vector(0, 0, 0, 4));
            s.badState(() -> x.clear(0));
            s.is(1, x::round);
            s.is(2, x::round);
            s.badState(() -> x.clear(0));
            s.is(3, x::round);
            s.badState(x::round);
            s.is(0, () -> x.clear(0));
        }
    }

    private static void notCleared() {
        Sentence s = new Sentence("P17: no round: nothing is cleared on another day");
        AuctionHour x = new AuctionHour(1);
        x.order(0, ALL, 0, BUY, 1, 0);
        Days.clearAll(x, 1);
        x.nextDay();
        nothingCleared(s, x);
        x.order(0, ALL, 0, BUY, 1, 0);
        Days.agree(x, 1);
        nothingCleared(s, x);
        s.is(0, () -> x.clear(1));
        s.is(20_000, () -> x.price(1, 0));
        s.badState(() -> x.price(0, 0));
    }

    private static void nothingCleared(Sentence s, AuctionHour x) {
        for (int op = 0; op < 4; op++) {
            int one = op;
            s.badState(() -> x.price(one, 0));
            s.badState(() -> x.traded(one, 0));
            s.badState(() -> x.fill(one, 0, 0));
            s.badState(() -> x.welfare(one));
            s.badState(() -> x.balance(one, 0));
            s.badState(() -> x.balance(one, -1));
        }
    }

    private static void clearedAnew() {
        Sentence s = new Sentence("P17: Another day: it is cleared from its own books");
        AuctionHour x = Days.rich(2);
        x.order(0, ALL, 0, BUY, 9, 50);
        x.block(1, ALL, 0, SELL, 5, 50);
        x.block(1, ALL, 0, SELL, 5, 10);
        Days.agree(x, 2);
        s.is(2, () -> x.clear(0));
        s.is(5, () -> x.traded(0, 0));
        s.is(5, () -> x.fill(0, 0, 0));
        x.nextDay();
        x.order(1, ALL, 0, BUY, 3, 20);
        x.order(0, ALL, 0, SELL, 3, 20);
        Days.agree(x, 2);
        s.is(0, () -> x.clear(0));
        s.is(20, () -> x.price(0, 0));
        s.is(3, () -> x.traded(0, 0));
        s.is(3, () -> x.fill(0, 0, 0));
        s.is(0, () -> x.welfare(0));
        x.nextDay();
        Days.agree(x, 2);
        s.is(0, () -> x.clear(0));
        s.is(17_500, () -> x.price(0, 0));
        s.is(0, () -> x.traded(0, 0));
        s.badArgument(() -> x.fill(0, 0, 0));
    }

    /** A block that only orders of the day before could serve. */
    private static void noLimitsOfYesterday() {
        Sentence s = new Sentence("P17: no books: their orders serve nobody on another day");
        for (int side = BUY; side <= SELL; side++) {
            AuctionHour x = Days.rich(2);
            for (int k = 0; k < 5; k++) {
                x.order(0, ALL, 0, BUY, 100, k);
                x.order(1, ALL, 0, SELL, 100, k);
            }
            Days.clearAll(x, 2);
            x.nextDay();
            x.order(0, ALL, 0, 1 - side, 9, 2);
            x.block(1, ALL, 0, side, 10, side == BUY ? 40_000 : -5000);
            Days.agree(x, 2);
            s.is(0, () -> x.clear(0));
            s.is(side == BUY ? -2499 : 20_001, () -> x.price(0, 0));
            s.is(0, () -> x.traded(0, 0));
        }
    }

    private static void collateralsStay() {
        Sentence s = new Sentence("P17: collaterals stay");
        AuctionHour x = new AuctionHour(6);
        for (int p = 0; p < 6; p++) {
            x.collateral(p, 100 * p);
        }
        x.order(5, ALL, 0, BUY, 1, 1);
        for (int day = 0; day < 3; day++) {
            x.nextDay();
            for (int p = 0; p < 6; p++) {
                int member = p;
                s.is(0, () -> x.order(member, ALL, 0, BUY, 1, 100 * member + 1));
                s.is(4, () -> x.order(member, ALL, 0, BUY, 1, 100 * member));
                s.is(member == 0 ? 4 : 0, () -> x.order(member, ALL, 0, BUY, 1, member == 0 ? 0 : 1));
            }
        }
    }

    private static void membersStay() {
        Sentence s = new Sentence("P1, P17: n members on each day");
        for (int n = 1; n <= 6; n++) {
            AuctionHour x = new AuctionHour(n);
            x.nextDay();
            int end = n;
            s.badArgument(() -> x.seal(end));
            s.badArgument(() -> x.collateral(end, 1));
            s.is(1, () -> x.seal(end - 1));
        }
    }

    /** The answers of a whole day, as one text. */
    private static String dayOf(AuctionHour x) {
        StringBuilder text = new StringBuilder();
        text.append(x.order(0, ALL, 0, BUY, 10, 50)).append(x.order(1, ALL, 0, SELL, 10, 45));
        text.append(x.block(1, ALL, 0, SELL, 5, 40)).append(x.order(0, 1, 1, BUY, 1, 1));
        text.append(x.seal(0)).append(x.seal(1)).append(x.round()).append(x.round()).append(x.round());
        for (int op = 0; op < 4; op++) {
            text.append(' ').append(x.vector(op, 0, 0, 4)).append(x.vector(op, 1, 0, 4)).append(x.clear(op));
            text.append(' ').append(x.price(op, 0)).append(' ').append(x.price(op, 1)).append(' ').append(x.welfare(op));
            text.append(' ').append(x.balance(op, 0)).append(' ').append(x.balance(op, 1));
        }
        return text.toString();
    }

    private static void atAnyTime() {
        Sentence s = new Sentence("P17: Another day, whatever was done on the one before");
        String due = dayOf(Days.rich(2));
        afterDay(s, due, x -> { });
        afterDay(s, due, AuctionHour::nextDay);
        afterDay(s, due, NextDayBoundaryTest::dayOf);
        afterDay(s, due, x -> x.order(0, ALL, 0, BUY, 7, 7));
        afterDay(s, due, x -> x.seal(1));
        afterDay(s, due, x -> x.liar(0));
        afterDay(s, due, x -> x.meter(0, 0, 9));
        for (int rounds = 0; rounds <= 3; rounds++) {
            int many = rounds;
            afterDay(s, due, x -> {
                x.block(0, 2, 2, SELL, 7, 7);
                x.liar(1);
                Days.sealAll(x, 2);
                Days.rounds(x, many);
            });
        }
    }

    private static void afterDay(Sentence s, String due, Consumer<AuctionHour> before) {
        AuctionHour x = Days.rich(2);
        before.accept(x);
        x.nextDay();
        s.same(dayOf(x), due);
    }
}
