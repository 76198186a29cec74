/** The boundaries of meters and balances: promises 15 and 16, and the terms they rest on. */
public final class AccountBoundaryTest {
    private static final int BUY = Sentence.BUY;
    private static final int SELL = Sentence.SELL;
    private static final int ALL = -1;
    private static final int LEAST = Integer.MIN_VALUE;
    private static final int GREATEST = Integer.MAX_VALUE;
    private static final long MILLION = 1_000_000;

    public static void main(String[] args) {
        meterAmount();
        meterMember();
        meterHour();
        meterAtAnyTime();
        meteredNothingAtFirst();
        moreAndLess();
        moreAndLessAroundTheFee();
        eachHourAtItsPrice();
        eachHourOnItsOwn();
        blocksToo();
        untakenBlocks();
        greatestBalances();
        fees();
        feesOfAll();
        metersAtAllOperators();
        balanceOfEachOperator();
        balanceOperator();
        balanceMember();
        balanceNotCleared();
        Sentence.end();
    }

    /** A day without entries: the price is 17,500 in each hour, and nobody sold or bought. */
    private static AuctionHour quiet(int n) {
        AuctionHour x = new AuctionHour(n);
        Days.clearAll(x, n);
        return x;
    }

    private static void meterAmount() {
        Sentence s = new Sentence("P15: A member's meter of an hour (-1,000,000 .. 1,000,000)");
        AuctionHour x = quiet(1);
        s.goes(() -> x.meter(0, 0, 1_000_000));
        s.is(MILLION * 17_450, () -> x.balance(0, 0));
        s.goes(() -> x.meter(0, 0, -1_000_000));
        s.is(-MILLION * 17_550, () -> x.balance(0, 0));
        s.goes(() -> x.meter(0, 0, 0));
        s.is(0, () -> x.balance(0, 0));
        s.goes(() -> x.meter(0, 0, 3));
        for (int amount : new int[] {-1_000_001, 1_000_001, LEAST, GREATEST}) {
            s.badArgument(() -> x.meter(0, 0, amount));
            s.is(3 * 17_450, () -> x.balance(0, 0));
        }
    }

    private static void meterMember() {
        Sentence s = new Sentence("P15: IllegalArgumentException: no such member");
        for (int n = 1; n <= 6; n++) {
            AuctionHour x = quiet(n);
            int last = n - 1;
            s.goes(() -> x.meter(0, 0, 1));
            s.goes(() -> x.meter(last, 0, 2));
            for (int p : new int[] {-1, n, LEAST, GREATEST}) {
                s.badArgument(() -> x.meter(p, 0, 1));
            }
            s.is(2 * 17_450, () -> x.balance(0, last));
            s.is(-17_450 * (n == 1 ? 2 : 3), () -> x.balance(0, -1));
        }
    }

    private static void meterHour() {
        Sentence s = new Sentence("P15: IllegalArgumentException: no such .. hour");
        AuctionHour x = quiet(2);
        for (int hour = 0; hour <= 2; hour++) {
            int one = hour;
            s.goes(() -> x.meter(0, one, 1));
            s.is(17_450 * (hour + 1), () -> x.balance(0, 0));
        }
        for (int hour : new int[] {-1, 3, LEAST, GREATEST}) {
            s.badArgument(() -> x.meter(0, hour, 5));
            s.badArgument(() -> x.meter(1, hour, 5));
        }
        s.is(3 * 17_450, () -> x.balance(0, 0));
        s.is(0, () -> x.balance(0, 1));
    }

    private static void meterAtAnyTime() {
        Sentence s = new Sentence("P16: as an operator has it (meters as they are now)");
        AuctionHour x = new AuctionHour(1);
        s.goes(() -> x.meter(0, 0, 1));
        x.seal(0);
        s.goes(() -> x.meter(0, 1, 1));
        x.round();
        s.goes(() -> x.meter(0, 2, 1));
        Days.rounds(x, 2);
        x.clear(0);
        s.is(3 * 17_450, () -> x.balance(0, 0));
        s.goes(() -> x.meter(0, 2, 0));
        s.is(2 * 17_450, () -> x.balance(0, 0));
        s.goes(() -> x.meter(0, 0, -1));
        s.is(17_450 - 17_550, () -> x.balance(0, 0));
        x.clear(0);
        s.is(17_450 - 17_550, () -> x.balance(0, 0));
        s.is(17_550 - 17_450, () -> x.balance(0, -1));
    }

    /** Member 0 bought 10 of hour 0 at a price, member 1 sold them. */
    private static AuctionHour traded(int price) {
        AuctionHour x = Days.rich(2);
        x.order(0, ALL, 0, BUY, 10, price);
        x.order(1, ALL, 0, SELL, 10, price);
        Days.clearAll(x, 2);
        return x;
    }

    private static void meteredNothingAtFirst() {
        Sentence s = new Sentence("Terms: METERED (delivered less taken, of an hour, 0 at first)");
        AuctionHour x = traded(40);
        s.is(-400 + 10 * (40 - 50), () -> x.balance(0, 0));
        s.is(400 - 10 * (40 + 50), () -> x.balance(0, 1));
        s.is(1000, () -> x.balance(0, -1));
        AuctionHour quiet = quiet(6);
        for (int p = -1; p < 6; p++) {
            int member = p;
            s.is(0, () -> quiet.balance(0, member));
        }
    }

    /** One more and one less than what was traded, and just that. */
    private static void around(Sentence s, int price) {
        AuctionHour x = traded(price);
        for (int more = -1; more <= 1; more++) {
            int off = more;
            long paid = more > 0 ? price - 50 : more < 0 ? -(price + 50) : 0;
            s.goes(() -> x.meter(0, 0, -10 + off));
            s.is(-10 * price + paid, () -> x.balance(0, 0));
            s.goes(() -> x.meter(1, 0, 10 + off));
            s.is(10 * price + paid, () -> x.balance(0, 1));
            s.is(-2 * paid, () -> x.balance(0, -1));
        }
    }

    private static void moreAndLess() {
        Sentence s = new Sentence("Terms: more is paid at price less FEE each, less is charged at price plus FEE each");
        around(s, 40);
        around(s, 0);
        around(s, 40_000);
        around(s, -5000);
    }

    private static void moreAndLessAroundTheFee() {
        Sentence s = new Sentence("Terms: FEE is 50");
        for (int away = -1; away <= 1; away++) {
            around(s, 50 + away);
            around(s, -50 + away);
        }
    }

    private static void eachHourAtItsPrice() {
        Sentence s = new Sentence("Terms: paid at price less FEE, charged at price plus FEE: of each hour at its own price");
        int[] prices = {40, 70, -20};
        AuctionHour x = Days.rich(2);
        for (int h = 0; h < 3; h++) {
            x.order(0, ALL, h, BUY, 10, prices[h]);
            x.order(1, ALL, h, SELL, 10, prices[h]);
            x.meter(0, h, -10);
            x.meter(1, h, 10);
        }
        Days.clearAll(x, 2);
        for (int h = 0; h < 3; h++) {
            for (int off = -3; off <= 3; off += 3) {
                long paid = off > 0 ? off * (prices[h] - 50) : off * (prices[h] + 50);
                x.meter(0, h, -10 + off);
                s.is(-900 + paid, () -> x.balance(0, 0));
                x.meter(1, h, 10 + off);
                s.is(900 + paid, () -> x.balance(0, 1));
                s.is(-2 * paid, () -> x.balance(0, -1));
            }
            x.meter(0, h, -10);
            x.meter(1, h, 10);
        }
    }

    private static void eachHourOnItsOwn() {
        Sentence s = new Sentence("Terms: BALANCE is the sum over hours: more of one hour does not make up for another");
        AuctionHour x = quiet(1);
        x.meter(0, 0, 7);
        x.meter(0, 1, -7);
        s.is(-7 * 100, () -> x.balance(0, 0));
        s.is(7 * 100, () -> x.balance(0, -1));
    }

    private static void blocksToo() {
        Sentence s = new Sentence("Terms: price times what it sold less what it bought (blocks, too)");
        AuctionHour x = Days.rich(2);
        for (int h = 0; h < 3; h++) {
            x.order(0, ALL, h, BUY, 1, 75 + h);
            x.order(0, ALL, h, SELL, 1, 75 + h);
        }
        x.block(0, ALL, 6, BUY, 10, 100);
        x.block(1, ALL, 6, SELL, 10, 50);
        Days.clearAll(x, 2);
        for (int h = 1; h < 3; h++) {
            x.meter(0, h, -10);
            x.meter(1, h, 10);
        }
        s.is(-760 - 770, () -> x.balance(0, 0));
        s.is(760 + 770, () -> x.balance(0, 1));
        s.is(0, () -> x.balance(0, -1));
        // One more in hour 0, where the block is not.
        x.meter(1, 0, 1);
        s.is(760 + 770 + 25, () -> x.balance(0, 1));
    }

    private static void untakenBlocks() {
        Sentence s = new Sentence("Terms: what it sold less what it bought: nothing of a block that is not taken");
        AuctionHour x = Days.rich(1);
        x.block(0, ALL, 2, BUY, 10, 100);
        x.order(0, ALL, 1, SELL, 10, 100);
        Days.clearAll(x, 1);
        s.is(0, () -> x.balance(0, 0));
    }

    private static void greatestBalances() {
        Sentence s = new Sentence("P15, P16: meters -1,000,000 .. 1,000,000 at prices -5,000 .. 40,000");
        for (int side = BUY; side <= SELL; side++) {
            AuctionHour x = Days.rich(6);
            long price = side == BUY ? 40_000 : -5000;
            for (int h = 0; h < 3; h++) {
                x.order(0, ALL, h, side, 1, (int) price);
            }
            Days.clearAll(x, 6);
            for (int sign = -1; sign <= 1; sign += 2) {
                for (int p = 0; p < 6; p++) {
                    for (int h = 0; h < 3; h++) {
                        x.meter(p, h, sign * 1_000_000);
                    }
                }
                long due = 3 * MILLION * (sign > 0 ? price - 50 : -(price + 50));
                for (int p = 0; p < 6; p++) {
                    int member = p;
                    s.is(due, () -> x.balance(0, member));
                }
                s.is(-6 * due, () -> x.balance(0, -1));
            }
        }
    }

    private static void fees() {
        Sentence s = new Sentence("P16: p -1: FEES; Terms: FEES is minus the sum of all balances");
        AuctionHour x = quiet(1);
        s.is(0, () -> x.balance(0, -1));
        x.meter(0, 0, 2);
        s.is(2 * 17_450, () -> x.balance(0, 0));
        s.is(-2 * 17_450, () -> x.balance(0, -1));
    }

    private static void feesOfAll() {
        Sentence s = new Sentence("Terms: FEES is minus the sum of all balances: of the first and the last member, too");
        for (int n = 1; n <= 6; n++) {
            for (int p = 0; p < n; p++) {
                AuctionHour x = quiet(n);
                x.meter(p, 2, -1);
                s.is(17_550, () -> x.balance(3, -1));
            }
        }
    }

    /** Three operators have the member's book, the liar has none: their prices differ. */
    private static void metersAtAllOperators() {
        Sentence s = new Sentence("Terms: Meters are the same at all operators");
        AuctionHour x = Days.rich(1);
        x.order(0, 0, 0, BUY, 5, 10);
        x.order(0, 1, 0, BUY, 5, 10);
        x.order(0, 2, 0, BUY, 6, 10);
        x.order(0, 3, 0, BUY, 7, 10);
        x.liar(3);
        x.seal(0);
        x.round();
        x.tell(0, 3, 0, 0);
        x.tell(1, 3, 0, 0);
        Days.rounds(x, 2);
        for (int op = 0; op < 4; op++) {
            x.clear(op);
        }
        x.meter(0, 0, 2);
        for (int op = 0; op < 4; op++) {
            int one = op;
            int price = op == 3 ? 17_500 : 20_005;
            s.is(2 * (price - 50), () -> x.balance(one, 0));
            s.is(-2 * (price - 50), () -> x.balance(one, -1));
        }
    }

    /** Member 0's 10 are in the vector of the liar alone, or of the honest ones alone. */
    private static AuctionHour divided(int liar, boolean byLiar) {
        int[] honest = Days.honest(liar);
        AuctionHour x = Days.rich(2);
        x.order(0, honest[0], 0, BUY, 10, 40);
        x.order(0, honest[1], 0, BUY, 10, 40);
        x.order(0, honest[2], 0, BUY, 11, 40);
        x.order(0, liar, 0, BUY, byLiar ? 10 : 12, 40);
        x.order(1, ALL, 0, SELL, 10, 40);
        x.liar(liar);
        Days.sealAll(x, 2);
        x.round();
        for (int op : honest) {
            x.tell(op, liar, 0, byLiar ? -1 : honest[0]);
        }
        Days.rounds(x, 2);
        for (int op = 0; op < 4; op++) {
            x.clear(op);
        }
        return x;
    }

    private static void balanceOfEachOperator() {
        Sentence s = new Sentence("P16: A member's balance as an operator has it");
        for (int liar = 0; liar < 4; liar++) {
            for (int way = 0; way < 2; way++) {
                boolean byLiar = way == 1;
                AuctionHour x = divided(liar, byLiar);
                for (int op = 0; op < 4; op++) {
                    int one = op;
                    boolean hasBook = (op == liar) == byLiar;
                    s.is(hasBook ? 40 : -2480, () -> x.price(one, 0));
                    s.is(hasBook ? -400 + 10 * (40 - 50) : 0, () -> x.balance(one, 0));
                    s.is(hasBook ? 400 - 10 * (40 + 50) : 0, () -> x.balance(one, 1));
                    s.is(hasBook ? 1000 : 0, () -> x.balance(one, -1));
                }
            }
        }
    }

    private static void balanceOperator() {
        Sentence s = new Sentence("P16: IllegalArgumentException: no such operator");
        AuctionHour x = quiet(1);
        s.is(0, () -> x.balance(0, 0));
        s.is(0, () -> x.balance(3, 0));
        for (int op : new int[] {-1, 4, LEAST, GREATEST}) {
            s.badArgument(() -> x.balance(op, 0));
            s.badArgument(() -> x.balance(op, -1));
        }
    }

    private static void balanceMember() {
        Sentence s = new Sentence("P16: IllegalArgumentException: no such .. member; p -1");
        for (int n = 1; n <= 6; n++) {
            AuctionHour x = quiet(n);
            int last = n - 1;
            s.is(0, () -> x.balance(0, -1));
            s.is(0, () -> x.balance(0, 0));
            s.is(0, () -> x.balance(0, last));
            for (int p : new int[] {-2, n, LEAST, GREATEST}) {
                s.badArgument(() -> x.balance(0, p));
            }
        }
    }

    private static void balanceNotCleared() {
        Sentence s = new Sentence("P16: IllegalStateException: it has not cleared");
        AuctionHour x = new AuctionHour(1);
        s.badState(() -> x.balance(0, 0));
        s.badState(() -> x.balance(0, -1));
        Days.agree(x, 1);
        s.badState(() -> x.balance(0, 0));
        s.badState(() -> x.balance(0, -1));
        x.clear(2);
        for (int op = 0; op < 4; op++) {
            int one = op;
            if (op == 2) {
                s.is(0, () -> x.balance(one, 0));
                s.is(0, () -> x.balance(one, -1));
            } else {
                s.badState(() -> x.balance(one, 0));
                s.badState(() -> x.balance(one, -1));
            }
        }
    }
}
