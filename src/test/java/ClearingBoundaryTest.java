/** The boundaries of prices, shares and blocks: promises 10 to 14, and the terms they rest on. */
public final class ClearingBoundaryTest {
    private static final int BUY = Sentence.BUY;
    private static final int SELL = Sentence.SELL;
    private static final int ALL = -1;
    private static final int LEAST = Integer.MIN_VALUE;
    private static final int GREATEST = Integer.MAX_VALUE;

    public static void main(String[] args) {
        clearingOperator();
        clearingBeforeThreeRounds();
        clearedOperator();
        clearedHour();
        notCleared();
        fromItsVectorAlone();
        sameVectors();
        hourWithoutOrders();
        buyersAlone();
        sellersAlone();
        buyersBelowSellers();
        middle();
        sureToBuy();
        sureToSell();
        greatestQuantity();
        blocksIncluded();
        roundedDown();
        greatestRemainders();
        sameRemainders();
        earlierOrder();
        sharedWhole();
        nothingToShare();
        sharesOfEachHour();
        sharesOfMany();
        sixtyLimits();
        setWithoutBlocks();
        firstEightBlocks();
        eightBlocksTaken();
        nothingBehindEight();
        blocksWithoutOrders();
        servingPrice();
        neitherLosesNorWins();
        losesOverItsHours();
        losesAtTheRoundedPrice();
        losersAreNotTaken();
        greatestWelfare();
        leastNumber();
        leastNumberOfSeveral();
        filledEntry();
        filledMember();
        filledLookedAtLast();
        welfare();
        welfareOfNothing();
        Sentence.end();
    }

    private static void clearingOperator() {
        Sentence s = new Sentence("P10: IllegalArgumentException: no such operator");
        AuctionHour x = new AuctionHour(1);
        Days.agree(x, 1);
        for (int op : new int[] {-1, 4, LEAST, GREATEST}) {
            s.badArgument(() -> x.clear(op));
        }
        for (int op = 0; op <= 3; op++) {
            int one = op;
            s.badState(() -> x.price(one, 0));
            s.is(0, () -> x.clear(one));
            s.is(17_500, () -> x.price(one, 0));
        }
    }

    private static void clearingBeforeThreeRounds() {
        Sentence s = new Sentence("P10: IllegalStateException: three rounds are not over");
        AuctionHour open = new AuctionHour(1);
        s.badState(() -> open.clear(0));
        AuctionHour x = new AuctionHour(1);
        x.seal(0);
        for (int rounds = 0; rounds < 3; rounds++) {
            s.badState(() -> x.clear(0));
            s.badState(() -> x.clear(3));
            s.badState(() -> x.price(0, 0));
            x.round();
        }
        s.badState(() -> x.price(0, 0));
        s.is(0, () -> x.clear(0));
        s.is(17_500, () -> x.price(0, 0));
    }

    private static void clearedOperator() {
        Sentence s = new Sentence("P11 to P14: IllegalArgumentException: no such operator");
        AuctionHour x = new AuctionHour(1);
        x.order(0, ALL, 0, BUY, 1, 0);
        Days.clearAll(x, 1);
        for (int op = 0; op <= 3; op++) {
            int one = op;
            s.is(20_000, () -> x.price(one, 0));
            s.is(0, () -> x.traded(one, 0));
            s.is(0, () -> x.fill(one, 0, 0));
            s.is(0, () -> x.welfare(one));
        }
        for (int op : new int[] {-1, 4, LEAST, GREATEST}) {
            s.badArgument(() -> x.price(op, 0));
            s.badArgument(() -> x.traded(op, 0));
            s.badArgument(() -> x.fill(op, 0, 0));
            s.badArgument(() -> x.welfare(op));
        }
    }

    private static void clearedHour() {
        Sentence s = new Sentence("Terms: HOURS 0, 1, 2; P11, P12: IllegalArgumentException: no such .. hour");
        AuctionHour x = Days.rich(1);
        for (int h = 0; h <= 2; h++) {
            x.order(0, ALL, h, BUY, h + 1, 10 * h);
            x.order(0, ALL, h, SELL, h + 1, 10 * h);
        }
        Days.clearAll(x, 1);
        for (int h = 0; h <= 2; h++) {
            int hour = h;
            s.is(10 * h, () -> x.price(0, hour));
            s.is(h + 1, () -> x.traded(0, hour));
        }
        for (int hour : new int[] {-1, 3, LEAST, GREATEST}) {
            s.badArgument(() -> x.price(0, hour));
            s.badArgument(() -> x.traded(0, hour));
        }
    }

    private static void notCleared() {
        Sentence s = new Sentence("P11 to P14: IllegalStateException: it has not cleared");
        for (int cleared = 0; cleared < 4; cleared++) {
            AuctionHour x = new AuctionHour(1);
            x.order(0, ALL, 0, BUY, 1, 0);
            Days.agree(x, 1);
            x.clear(cleared);
            for (int op = 0; op < 4; op++) {
                int one = op;
                if (op == cleared) {
                    s.is(20_000, () -> x.price(one, 0));
                    s.is(0, () -> x.traded(one, 0));
                    s.is(0, () -> x.fill(one, 0, 0));
                    s.is(0, () -> x.welfare(one));
                } else {
                    s.badState(() -> x.price(one, 0));
                    s.badState(() -> x.traded(one, 0));
                    s.badState(() -> x.fill(one, 0, 0));
                    s.badState(() -> x.welfare(one));
                }
            }
        }
    }

    /** The liar has no book of the member, the three others have one: each clears what it has. */
    private static void fromItsVectorAlone() {
        Sentence s = new Sentence("Terms: CLEARING by an operator, from its vector alone");
        AuctionHour x = Days.rich(1);
        x.order(0, 0, 0, BUY, 5, 10);
        x.order(0, 1, 0, BUY, 5, 10);
        x.order(0, 2, 0, BUY, 6, 10);
        x.order(0, 3, 0, BUY, 7, 10);
        x.liar(3);
        x.seal(0);
        x.round();
        x.tell(0, 3, 0, 0);
        x.tell(1, 3, 0, 0);
        Days.rounds(x, 2);
        for (int op = 0; op < 4; op++) {
            x.clear(op);
        }
        for (int op = 0; op < 3; op++) {
            int one = op;
            s.is(20_005, () -> x.price(one, 0));
            s.is(0, () -> x.fill(one, 0, 0));
            s.badArgument(() -> x.fill(one, 0, 1));
        }
        s.is(17_500, () -> x.price(3, 0));
        s.badArgument(() -> x.fill(3, 0, 0));
    }

    /** What one operator cleared leaves no trace in what the next one clears. */
    private static void sameVectors() {
        Sentence s = new Sentence("Terms: each clears the day from what it holds: the same, where they hold the same");
        AuctionHour x = Days.rich(2);
        for (int h = 0; h < 3; h++) {
            x.order(0, ALL, h, BUY, 7, -10 * h - 30);
            x.order(0, ALL, h, BUY, 9, -10 * h - 20);
            x.order(1, ALL, h, SELL, 4, -10 * h - 50);
            x.order(1, ALL, h, SELL, 8, -10 * h - 20);
        }
        x.block(0, ALL, 2, BUY, 2, -40);
        x.block(1, ALL, 1, SELL, 3, -45);
        Days.agree(x, 2);
        for (int op = 0; op < 4; op++) {
            int one = op;
            s.is(2, () -> x.clear(one));
            s.is(-20, () -> x.price(one, 0));
            s.is(-30, () -> x.price(one, 1));
            s.is(-40, () -> x.price(one, 2));
            for (int h = 0; h < 3; h++) {
                int hour = h;
                s.is(9, () -> x.traded(one, hour));
                s.is(0, () -> x.fill(one, 0, 2 * hour));
                s.is(9, () -> x.fill(one, 0, 2 * hour + 1));
                s.is(4, () -> x.fill(one, 1, 2 * hour));
                s.is(hour == 2 ? 5 : 2, () -> x.fill(one, 1, 2 * hour + 1));
            }
        }
    }

    private static void hourWithoutOrders() {
        Sentence s = new Sentence("Terms: the least and the greatest price of -5,000 .. 40,000: an hour without orders");
        for (int busy = -1; busy < 3; busy++) {
            AuctionHour x = Days.rich(1);
            if (busy >= 0) {
                x.order(0, ALL, busy, BUY, 5, 10);
                x.order(0, ALL, busy, SELL, 5, 10);
            }
            Days.clearAll(x, 1);
            for (int h = 0; h < 3; h++) {
                int hour = h;
                s.is(h == busy ? 10 : 17_500, () -> x.price(0, hour));
                s.is(h == busy ? 5 : 0, () -> x.traded(0, hour));
            }
        }
    }

    /** Hour 1 of a day of one member with one order of a side at a limit, and one further off. */
    private static void oneSide(Sentence s, int side, int limit, int due) {
        AuctionHour x = Days.rich(1);
        x.order(0, ALL, 1, side, 1000, limit);
        x.order(0, ALL, 1, side, 1, side == BUY ? -5000 : 40_000);
        Days.clearAll(x, 1);
        s.is(due, () -> x.price(0, 1));
        s.is(0, () -> x.traded(0, 1));
        s.is(0, () -> x.fill(0, 0, 0));
        s.is(0, () -> x.fill(0, 0, 1));
        s.is(0, () -> x.welfare(0));
    }

    private static void buyersAlone() {
        Sentence s = new Sentence("Terms: the greatest price of -5,000 .. 40,000: an hour that has buyers alone");
        oneSide(s, BUY, -5000, 17_500);
        oneSide(s, BUY, -4999, 17_500);
        oneSide(s, BUY, -4998, 17_501);
        oneSide(s, BUY, 0, 20_000);
        oneSide(s, BUY, 1, 20_000);
        oneSide(s, BUY, 39_998, 39_999);
        oneSide(s, BUY, 39_999, 39_999);
        oneSide(s, BUY, 40_000, 40_000);
    }

    private static void sellersAlone() {
        Sentence s = new Sentence("Terms: the least price of -5,000 .. 40,000: an hour that has sellers alone");
        oneSide(s, SELL, -5000, -5000);
        oneSide(s, SELL, -4999, -5000);
        oneSide(s, SELL, -4998, -4999);
        oneSide(s, SELL, 0, -2500);
        oneSide(s, SELL, 1, -2500);
        oneSide(s, SELL, 39_998, 17_499);
        oneSide(s, SELL, 39_999, 17_499);
        oneSide(s, SELL, 40_000, 17_500);
    }

    /** Hour 2 of a day with one buyer and one seller of 10 each. */
    private static void pair(Sentence s, int bid, int offer, int price, int traded) {
        AuctionHour x = Days.rich(2);
        x.order(0, ALL, 2, BUY, 10, bid);
        x.order(1, ALL, 2, SELL, 10, offer);
        Days.clearAll(x, 2);
        s.is(price, () -> x.price(0, 2));
        s.is(traded, () -> x.traded(0, 2));
        s.is(traded, () -> x.fill(0, 0, 0));
        s.is(traded, () -> x.fill(0, 1, 0));
        s.is((long) traded * (bid - offer), () -> x.welfare(0));
    }

    private static void buyersBelowSellers() {
        Sentence s = new Sentence("Terms: x SERVES the hour when bought and sold can be equal then: both may be 0");
        pair(s, 10, 11, 10, 0);
        pair(s, 10, 12, 11, 0);
        pair(s, -11, -10, -11, 0);
        pair(s, -1, 0, -1, 0);
        pair(s, 0, 1, 0, 0);
        pair(s, -5000, 40_000, 17_500, 0);
        pair(s, -5000, -4999, -5000, 0);
        pair(s, 39_999, 40_000, 39_999, 0);
    }

    private static void middle() {
        Sentence s = new Sentence("Terms: THE PRICE is the middle, rounded down (towards minus infinity)");
        pair(s, 4, 3, 3, 10);
        pair(s, 5, 3, 4, 10);
        pair(s, 5, 5, 5, 10);
        pair(s, 1, 0, 0, 10);
        pair(s, 0, 0, 0, 10);
        pair(s, 0, -1, -1, 10);
        pair(s, 1, -1, 0, 10);
        pair(s, 1, -2, -1, 10);
        pair(s, 2, -1, 0, 10);
        pair(s, 4, -3, 0, 10);
        pair(s, 3, -4, -1, 10);
        pair(s, -3, -4, -4, 10);
        pair(s, -3, -6, -5, 10);
        pair(s, -4, -6, -5, 10);
        pair(s, 40_000, -5000, 17_500, 10);
        pair(s, 39_999, -5000, 17_499, 10);
        pair(s, -4999, -5000, -5000, 10);
        pair(s, -5000, -5000, -5000, 10);
        pair(s, 40_000, 39_999, 39_999, 10);
        pair(s, 40_000, 40_000, 40_000, 10);
    }

    /**
     * Three orders of a side, around the limit 40 of one of 8 on the other side, sent from the best
     * limit on and from the worst.
     */
    private static void aroundThePrice(Sentence s, int side) {
        int[] quantities = {5, 6, 7};
        int[] due = {5, 3, 0};
        for (int last = 0; last <= 2; last += 2) {
            AuctionHour x = Days.rich(2);
            for (int k = 0; k < 3; k++) {
                int away = 1 - Math.abs(last - k);
                x.order(0, ALL, 0, side, quantities[1 - away], side == BUY ? 40 + away : 40 - away);
            }
            x.order(1, ALL, 0, 1 - side, 8, 40);
            Days.clearAll(x, 2);
            s.is(40, () -> x.price(0, 0));
            s.is(8, () -> x.traded(0, 0));
            for (int k = 0; k < 3; k++) {
                int entry = Math.abs(last - k);
                s.is(due[k], () -> x.fill(0, 0, entry));
            }
            s.is(8, () -> x.fill(0, 1, 0));
        }
    }

    private static void sureToBuy() {
        Sentence s = new Sentence("Terms: orders that buy with a limit above x, whole; up to all orders that buy at x");
        aroundThePrice(s, BUY);
    }

    private static void sureToSell() {
        Sentence s = new Sentence("Terms: selling likewise with limits below x, at x");
        aroundThePrice(s, SELL);
    }

    private static void greatestQuantity() {
        Sentence s = new Sentence("Terms: TRADED is the greatest quantity that can be bought and sold at it");
        int[][] cases = {{10, 7, 7}, {7, 10, 7}, {10, 10, 10}, {1, 1000, 1}, {1000, 999, 999}, {1000, 1000, 1000}};
        for (int[] one : cases) {
            AuctionHour x = Days.rich(2);
            x.order(0, ALL, 0, BUY, one[0], 40);
            x.order(1, ALL, 0, SELL, one[1], 40);
            Days.clearAll(x, 2);
            s.is(40, () -> x.price(0, 0));
            s.is(one[2], () -> x.traded(0, 0));
            s.is(one[2], () -> x.fill(0, 0, 0));
            s.is(one[2], () -> x.fill(0, 1, 0));
        }
        // Sure ones and those at the price on both sides: at most 4 + 6 bought, 3 + 5 sold.
        AuctionHour x = Days.rich(2);
        x.order(0, ALL, 0, BUY, 4, 41);
        x.order(0, ALL, 0, BUY, 6, 40);
        x.order(1, ALL, 0, SELL, 3, 39);
        x.order(1, ALL, 0, SELL, 5, 40);
        Days.clearAll(x, 2);
        s.is(8, () -> x.traded(0, 0));
        s.is(4, () -> x.fill(0, 0, 1));
        s.is(5, () -> x.fill(0, 1, 1));
    }

    private static void blocksIncluded() {
        Sentence s = new Sentence("P12: What was traded in an hour, taken blocks included");
        int[] spans = {0, 1, 2, 5, 6, 10};
        for (int hours : spans) {
            AuctionHour x = Days.rich(2);
            for (int h = 0; h < 3; h++) {
                x.order(0, ALL, h, BUY, 1, 75);
                x.order(0, ALL, h, SELL, 1, 75);
            }
            x.block(0, ALL, hours, BUY, 10, 100);
            x.block(1, ALL, hours, SELL, 10, 50);
            Days.clearAll(x, 2);
            s.is(3, () -> x.clear(0));
            for (int h = 0; h < 3; h++) {
                int hour = h;
                boolean isIn = hours / 4 <= h && h <= hours % 4;
                s.is(75, () -> x.price(0, hour));
                s.is(isIn ? 11 : 1, () -> x.traded(0, hour));
            }
            s.is(10, () -> x.fill(0, 0, 6));
            s.is(10, () -> x.fill(0, 1, 0));
            s.is(500L * (hours % 4 - hours / 4 + 1), () -> x.welfare(0));
        }
    }

    /**
     * Orders at the price share what one order of the other side brings, which is less than all of
     * them: first as buyers, then as sellers.
     */
    private static void shares(Sentence s, int[] quantities, int shared, int... due) {
        for (int side = BUY; side <= SELL; side++) {
            AuctionHour x = Days.rich(2);
            for (int quantity : quantities) {
                x.order(0, ALL, 0, side, quantity, 40);
            }
            x.order(1, ALL, 0, 1 - side, shared, side == BUY ? 30 : 50);
            Days.clearAll(x, 2);
            s.is(40, () -> x.price(0, 0));
            s.is(shared, () -> x.traded(0, 0));
            s.is(shared, () -> x.fill(0, 1, 0));
            for (int i = 0; i < due.length; i++) {
                int entry = i;
                s.is(due[i], () -> x.fill(0, 0, entry));
            }
        }
    }

    private static int[] of(int... row) {
        return row;
    }

    private static void roundedDown() {
        Sentence s = new Sentence("Terms: each gets its quantity times that, over all quantities, rounded down");
        shares(s, of(2, 4), 3, 1, 2);
        shares(s, of(1000, 1000), 1000, 500, 500);
        shares(s, of(1, 2, 3), 4, 1, 1, 2);
        shares(s, of(100, 1), 100, 99, 1);
        shares(s, of(999, 1), 1, 1, 0);
        shares(s, of(1, 999), 1, 0, 1);
        shares(s, of(7), 6, 6);
        shares(s, of(1000), 1, 1);
        shares(s, of(1000), 999, 999);
    }

    private static void greatestRemainders() {
        Sentence s = new Sentence("Terms: what is left goes one by one to those with the greatest remainders");
        shares(s, of(10, 3, 20), 10, 3, 1, 6);
        shares(s, of(7, 2, 1), 9, 6, 2, 1);
        shares(s, of(2, 1, 1), 2, 1, 1, 0);
        shares(s, of(1, 2, 1), 2, 1, 1, 0);
        shares(s, of(2, 3), 4, 2, 2);
        shares(s, of(3, 2), 4, 2, 2);
        shares(s, of(4, 5, 6), 7, 2, 2, 3);
    }

    private static void sameRemainders() {
        Sentence s = new Sentence("Terms: of the same ones the earlier order first");
        for (int shared = 1; shared <= 9; shared++) {
            int[] due = new int[10];
            java.util.Arrays.fill(due, 0, shared, 1);
            shares(s, of(1, 1, 1, 1, 1, 1, 1, 1, 1, 1), shared, due);
        }
        shares(s, of(1000, 1000), 999, 500, 499);
        shares(s, of(1000, 1000), 1, 1, 0);
        shares(s, of(1, 3), 2, 1, 1);
        shares(s, of(3, 1), 2, 2, 0);
        shares(s, of(1, 1, 1, 5), 6, 1, 1, 1, 3);
        shares(s, of(5, 1, 1, 1), 6, 4, 1, 1, 0);
    }

    private static void earlierOrder() {
        Sentence s = new Sentence("Terms: ORDERS in order are members', then entries'");
        for (int side = BUY; side <= SELL; side++) {
            AuctionHour x = Days.rich(4);
            // Sent from the last member on, with entries of other kinds in front and between.
            x.order(2, ALL, 1, side, 1, 40);
            x.order(2, ALL, 0, side, 1, 40);
            x.order(1, ALL, 0, side, 1, 40);
            x.block(1, ALL, 10, SELL, 1, 40_000);
            x.order(1, ALL, 0, side, 1, 40);
            x.order(0, ALL, 0, 1 - side, 2, side == BUY ? 30 : 50);
            x.order(3, ALL, 0, side, 1, 40);
            Days.clearAll(x, 4);
            s.is(40, () -> x.price(0, 0));
            s.is(1, () -> x.fill(0, 1, 0));
            s.is(1, () -> x.fill(0, 1, 2));
            s.is(0, () -> x.fill(0, 2, 1));
            s.is(0, () -> x.fill(0, 3, 0));
            s.is(2, () -> x.fill(0, 0, 0));
        }
    }

    private static void sharedWhole() {
        Sentence s = new Sentence("Terms: what is traded beyond what is sure: all of the orders at the price");
        for (int side = BUY; side <= SELL; side++) {
            AuctionHour x = Days.rich(2);
            x.order(0, ALL, 0, side, 3, 40);
            x.order(0, ALL, 0, side, 7, 40);
            x.order(1, ALL, 0, 1 - side, 10, 40);
            Days.clearAll(x, 2);
            s.is(40, () -> x.price(0, 0));
            s.is(3, () -> x.fill(0, 0, 0));
            s.is(7, () -> x.fill(0, 0, 1));
            s.is(10, () -> x.fill(0, 1, 0));
        }
    }

    private static void nothingToShare() {
        Sentence s = new Sentence("Terms: what is traded beyond what is sure: nothing for the orders at the price");
        AuctionHour x = Days.rich(2);
        x.order(0, ALL, 0, BUY, 10, 41);
        x.order(0, ALL, 0, BUY, 5, 40);
        x.order(1, ALL, 0, SELL, 10, 30);
        // Hours with one side alone, whose price is the limit.
        x.order(0, ALL, 1, BUY, 5, 40_000);
        x.order(1, ALL, 2, SELL, 5, -5000);
        Days.clearAll(x, 2);
        s.is(40, () -> x.price(0, 0));
        s.is(10, () -> x.traded(0, 0));
        s.is(10, () -> x.fill(0, 0, 0));
        s.is(0, () -> x.fill(0, 0, 1));
        s.is(40_000, () -> x.price(0, 1));
        s.is(0, () -> x.fill(0, 0, 2));
        s.is(-5000, () -> x.price(0, 2));
        s.is(0, () -> x.fill(0, 1, 1));
    }

    private static void sharesOfEachHour() {
        Sentence s = new Sentence("Terms: the greatest remainders: those of the hour and the side alone");
        for (int side = BUY; side <= SELL; side++) {
            AuctionHour x = Days.rich(2);
            for (int h = 0; h < 3; h++) {
                for (int k = 0; k < 3; k++) {
                    x.order(0, ALL, h, side, 1, 40);
                }
                x.order(1, ALL, h, 1 - side, 1 + h % 2, side == BUY ? 30 : 50);
            }
            Days.clearAll(x, 2);
            int[] due = {1, 0, 0, 1, 1, 0, 1, 0, 0};
            for (int i = 0; i < 9; i++) {
                int entry = i;
                s.is(due[i], () -> x.fill(0, 0, entry));
            }
        }
    }

    /** Fifty orders of 1,000 share 10,000, or one less. */
    private static void sharesOfMany() {
        Sentence s = new Sentence("Terms: at most 10 ENTRIES of up to 6 members at one price");
        for (int missing = 0; missing <= 1; missing++) {
            AuctionHour x = Days.rich(6);
            for (int p = 0; p < 5; p++) {
                for (int k = 0; k < 10; k++) {
                    x.order(p, ALL, 0, BUY, 1000, 10);
                }
            }
            for (int k = 0; k < 10; k++) {
                x.order(5, ALL, 0, SELL, k == 9 ? 1000 - missing : 1000, 10);
            }
            Days.agree(x, 6);
            x.clear(2);
            s.is(10, () -> x.price(2, 0));
            s.is(10_000 - missing, () -> x.traded(2, 0));
            for (int p = 0; p < 5; p++) {
                for (int k = 0; k < 10; k++) {
                    int member = p;
                    int entry = k;
                    boolean isLast = p == 4 && k == 9;
                    s.is(isLast ? 200 - missing : 200, () -> x.fill(2, member, entry));
                }
            }
            s.is(1000 - missing, () -> x.fill(2, 5, 9));
            s.is(0, () -> x.welfare(2));
        }
    }

    /** All that six members can send to one hour, no two at the same limit. */
    private static void sixtyLimits() {
        Sentence s = new Sentence("Terms: up to 6 MEMBERS, at most 10 ENTRIES: each at a limit of its own");
        for (int falling = 0; falling <= 1; falling++) {
            AuctionHour x = Days.rich(6);
            for (int k = 0; k < 60; k++) {
                int place = falling == 1 ? 59 - k : k;
                // Buyers at even limits up to 58, sellers at odd ones up to 59.
                x.order(k / 10, ALL, 1, place % 2, 1, place);
            }
            Days.agree(x, 6);
            s.is(0, () -> x.clear(0));
            // At 29 those that buy at 30 .. 58 are sure, and those that sell at 1 .. 27 and at 29 meet them.
            s.is(29, () -> x.price(0, 1));
            s.is(15, () -> x.traded(0, 1));
            for (int k = 0; k < 60; k++) {
                int place = falling == 1 ? 59 - k : k;
                int member = k / 10;
                int entry = k % 10;
                boolean isFilled = place % 2 == BUY ? place > 29 : place <= 29;
                s.is(isFilled ? 1 : 0, () -> x.fill(0, member, entry));
            }
            s.is(660 - 225, () -> x.welfare(0));
        }
    }

    private static void setWithoutBlocks() {
        Sentence s = new Sentence("P10: the set of taken blocks as a number: none");
        AuctionHour none = new AuctionHour(1);
        Days.agree(none, 1);
        s.is(0, () -> none.clear(0));
        AuctionHour orders = Days.rich(1);
        orders.order(0, ALL, 0, BUY, 5, 50);
        orders.order(0, ALL, 0, SELL, 5, 50);
        Days.agree(orders, 1);
        s.is(0, () -> orders.clear(0));
        AuctionHour notTaken = Days.rich(1);
        notTaken.block(0, ALL, 0, BUY, 5, 50);
        Days.agree(notTaken, 1);
        s.is(0, () -> notTaken.clear(0));
        s.is(0, () -> notTaken.fill(0, 0, 0));
        s.is(17_500, () -> notTaken.price(0, 0));
    }

    /** A block that is worth taking, behind so many of which none can be. */
    private static void firstEightBlocks() {
        Sentence s = new Sentence("Terms: BLOCKS that count are the first 8 in that order");
        for (int before = 0; before <= 10; before++) {
            AuctionHour x = Days.rich(3);
            // Member 1 sends first, but member 0 comes first; orders between do not count.
            x.order(1, ALL, 0, BUY, 10, 50);
            x.block(1, ALL, 0, SELL, 5, 40);
            x.order(1, ALL, 0, SELL, 10, 45);
            for (int k = 0; k < before; k++) {
                x.block(0, ALL, 0, BUY, 1, -5000);
            }
            x.block(2, ALL, 0, SELL, 1, 40_000);
            Days.agree(x, 3);
            boolean counts = before <= 7;
            s.is(counts ? 1 << before : 0, () -> x.clear(0));
            s.is(counts ? 5 : 0, () -> x.fill(0, 1, 1));
            s.is(counts ? 45 : 47, () -> x.price(0, 0));
            s.is(10, () -> x.traded(0, 0));
            s.is(counts ? 5 : 10, () -> x.fill(0, 1, 2));
            s.is(500 - (counts ? 5 * 45 + 5 * 40 : 450), () -> x.welfare(0));
        }
    }

    private static void eightBlocksTaken() {
        Sentence s = new Sentence("Terms: bit k: the k-th block that counts");
        for (int blocks = 1; blocks <= 10; blocks++) {
            AuctionHour x = Days.rich(2);
            for (int k = 0; k < blocks; k++) {
                x.block(k < 5 ? 0 : 1, ALL, 0, SELL, 1, 10);
            }
            x.order(1, ALL, 0, BUY, 11, 50);
            Days.agree(x, 2);
            int taken = Math.min(blocks, 8);
            s.is((1 << taken) - 1, () -> x.clear(0));
            s.is(taken, () -> x.traded(0, 0));
            s.is(50, () -> x.price(0, 0));
            for (int k = 0; k < blocks; k++) {
                int member = k < 5 ? 0 : 1;
                int entry = k % 5;
                s.is(k < 8 ? 1 : 0, () -> x.fill(0, member, entry));
            }
            s.is(40L * taken, () -> x.welfare(0));
        }
    }

    /** Sixty blocks, each as good as the first ones: what is behind 8 gets nothing, however far behind. */
    private static void nothingBehindEight() {
        Sentence s = new Sentence("Terms: BLOCKS that count are the first 8; P13: its quantity or 0 of a block");
        AuctionHour x = Days.rich(6);
        for (int k = 0; k < 60; k++) {
            boolean isBid = k % 2 == 0;
            x.block(k / 10, ALL, 0, isBid ? BUY : SELL, 5, isBid ? 20_000 : 10_000);
        }
        Days.agree(x, 6);
        s.is(255, () -> x.clear(0));
        s.is(20, () -> x.traded(0, 0));
        s.is(17_500, () -> x.price(0, 0));
        s.is(20 * 10_000, () -> x.welfare(0));
        for (int k = 0; k < 60; k++) {
            int member = k / 10;
            int entry = k % 10;
            s.is(k < 8 ? 5 : 0, () -> x.fill(0, member, entry));
        }
    }

    private static void setOf(Sentence s, int due, int[] bid, int[] offer) {
        AuctionHour x = Days.rich(2);
        x.block(0, ALL, bid[0], BUY, bid[1], bid[2]);
        x.block(1, ALL, offer[0], SELL, offer[1], offer[2]);
        Days.agree(x, 2);
        s.is(due, () -> x.clear(0));
        s.is(17_500, () -> x.price(0, 0));
        s.is(due == 3 ? bid[1] : 0, () -> x.traded(0, 0));
    }

    private static void blocksWithoutOrders() {
        Sentence s = new Sentence("Terms: x SERVES the hour: an hour that has blocks and no orders");
        setOf(s, 3, of(0, 10, 17_501), of(0, 10, 17_500));
        setOf(s, 3, of(0, 10, 17_500), of(0, 10, 17_499));
        setOf(s, 0, of(0, 10, 17_500), of(0, 10, 17_500));
        setOf(s, 0, of(0, 10, 17_502), of(0, 10, 17_501));
        setOf(s, 0, of(0, 10, 17_499), of(0, 10, 17_498));
        setOf(s, 0, of(0, 10, 17_501), of(0, 9, 17_500));
        setOf(s, 0, of(0, 9, 17_501), of(0, 10, 17_500));
        setOf(s, 3, of(2, 10, 17_501), of(2, 10, 17_500));
        setOf(s, 0, of(2, 10, 17_501), of(1, 10, 17_500));
        setOf(s, 0, of(1, 10, 17_501), of(2, 10, 17_500));
    }

    /** One block against orders of 10 of the other side at 50. */
    private static void against(Sentence s, boolean isTaken, int hours, int side, int quantity, int limit) {
        AuctionHour x = Days.rich(2);
        x.order(0, ALL, 0, 1 - side, 10, 50);
        x.block(1, ALL, hours, side, quantity, limit);
        Days.agree(x, 2);
        s.is(isTaken ? 1 : 0, () -> x.clear(0));
        s.is(isTaken ? quantity : 0, () -> x.fill(0, 1, 0));
        s.is(isTaken ? quantity : 0, () -> x.fill(0, 0, 0));
    }

    private static void servingPrice() {
        Sentence s = new Sentence("Terms: A set is FIT when each hour has a serving price");
        // All 10 sold: each price from -5,000 to 50 serves, the middle is -2,475.
        against(s, true, 0, SELL, 9, 49);
        against(s, false, 0, SELL, 10, 49);
        against(s, true, 0, SELL, 10, -2475);
        against(s, false, 0, SELL, 10, -2474);
        against(s, false, 0, SELL, 11, -5000);
        // All 10 bought: each price from 50 to 40,000 serves, the middle is 20,025.
        against(s, true, 0, BUY, 9, 51);
        against(s, false, 0, BUY, 10, 51);
        against(s, true, 0, BUY, 10, 20_025);
        against(s, false, 0, BUY, 10, 20_024);
        against(s, false, 0, BUY, 11, 40_000);
        // Nobody is there in hour 1.
        against(s, false, 1, SELL, 9, -5000);
        against(s, false, 1, BUY, 9, 40_000);
    }

    /** Orders that hold the price of an hour when a block of 10 of a side is taken. */
    private static void holdPrice(AuctionHour x, int hour, int blockSide, int price) {
        int early = blockSide == SELL ? price + 100 : price - 100;
        x.order(0, ALL, hour, 1 - blockSide, 6, early);
        x.order(0, ALL, hour, 1 - blockSide, 5, price);
    }

    private static void neitherLosesNorWins() {
        Sentence s = new Sentence("Terms: no taken block loses: not below 0 for a selling one, not above 0 for a buying one");
        for (int price : new int[] {20, 1, 0, -1, -20}) {
            for (int side = BUY; side <= SELL; side++) {
                for (int more = -1; more <= 1; more++) {
                    AuctionHour x = Days.rich(2);
                    holdPrice(x, 0, side, price);
                    x.block(1, ALL, 0, side, 10, price + more);
                    Days.agree(x, 2);
                    boolean isTaken = side == SELL ? more <= 0 : more >= 0;
                    s.is(isTaken ? 1 : 0, () -> x.clear(0));
                    s.is(isTaken ? 10 : 0, () -> x.fill(0, 1, 0));
                    s.is(isTaken ? 10 : 0, () -> x.traded(0, 0));
                    if (isTaken) {
                        s.is(price, () -> x.price(0, 0));
                    }
                }
            }
        }
    }

    private static void losesOverItsHours() {
        Sentence s = new Sentence("Terms: the sum over its hours of (price - limit)");
        for (int side = BUY; side <= SELL; side++) {
            for (int sum = 89; sum <= 91; sum++) {
                AuctionHour x = Days.rich(2);
                holdPrice(x, 0, side, 10);
                holdPrice(x, 1, side, 20);
                holdPrice(x, 2, side, sum - 30);
                x.block(1, ALL, 2, side, 10, 30);
                Days.agree(x, 2);
                boolean isTaken = side == SELL ? sum >= 90 : sum <= 90;
                s.is(isTaken ? 1 : 0, () -> x.clear(0));
            }
            for (int sum = 59; sum <= 61; sum++) {
                AuctionHour x = Days.rich(2);
                // What hour 0 costs is nothing to a block of hours 1 and 2.
                x.order(1, ALL, 0, BUY, 5, side == SELL ? -900 : 900);
                x.order(1, ALL, 0, SELL, 5, side == SELL ? -900 : 900);
                holdPrice(x, 1, side, 20);
                holdPrice(x, 2, side, sum - 20);
                x.block(1, ALL, 6, side, 10, 30);
                Days.agree(x, 2);
                boolean isTaken = side == SELL ? sum >= 60 : sum <= 60;
                s.is(isTaken ? 1 : 0, () -> x.clear(0));
            }
        }
    }

    /** With the block both limits and nothing else serve: the lower one is the price. */
    private static void losesAtTheRoundedPrice() {
        Sentence s = new Sentence("Terms: THE PRICE .. rounded down: what a block loses is told by it");
        for (int low : new int[] {20, 0, -1, -21}) {
            for (int more = -1; more <= 1; more++) {
                AuctionHour sells = Days.rich(2);
                sells.order(0, ALL, 0, BUY, 10, low + 1);
                sells.order(0, ALL, 0, BUY, 5, low);
                sells.block(1, ALL, 0, SELL, 10, low + more);
                Days.agree(sells, 2);
                s.is(more <= 0 ? 1 : 0, () -> sells.clear(0));
                AuctionHour buys = Days.rich(2);
                buys.order(0, ALL, 0, SELL, 9, low - 50);
                buys.order(0, ALL, 0, SELL, 1, low);
                buys.order(0, ALL, 0, SELL, 5, low + 1);
                buys.block(1, ALL, 0, BUY, 10, low + more);
                Days.agree(buys, 2);
                s.is(more >= 0 ? 1 : 0, () -> buys.clear(0));
                if (more == 0) {
                    s.is(low, () -> sells.price(0, 0));
                    s.is(low, () -> buys.price(0, 0));
                }
            }
        }
    }

    private static void losersAreNotTaken() {
        Sentence s = new Sentence("Terms: Of all fit sets (no blocks at all is one)");
        AuctionHour x = Days.rich(2);
        x.order(0, ALL, 0, BUY, 100, 50);
        x.order(1, ALL, 0, SELL, 100, 30);
        // With it the welfare would be 3,000, but the price far below its limit.
        x.block(1, ALL, 0, SELL, 100, 20);
        Days.agree(x, 2);
        s.is(0, () -> x.clear(0));
        s.is(40, () -> x.price(0, 0));
        s.is(2000, () -> x.welfare(0));
    }

    /** Either of two blocks fits alone, both together would have no price that suits them. */
    private static void eitherOfTwo(Sentence s, int first, int second, int due) {
        AuctionHour x = Days.rich(3);
        x.order(0, ALL, 0, BUY, 10, 50);
        x.order(1, ALL, 0, SELL, 10, 45);
        x.block(1, ALL, 0, SELL, 5, first);
        x.block(2, ALL, 0, SELL, 5, second);
        Days.agree(x, 3);
        s.is(due, () -> x.clear(0));
        s.is(45, () -> x.price(0, 0));
        s.is(500 - 5 * 45 - 5 * Math.min(first, second), () -> x.welfare(0));
    }

    private static void greatestWelfare() {
        Sentence s = new Sentence("Terms: that with the greatest welfare counts");
        eitherOfTwo(s, 40, 41, 1);
        eitherOfTwo(s, 40, 39, 2);
        eitherOfTwo(s, -5, -4, 1);
        eitherOfTwo(s, -4, -5, 2);
    }

    private static void leastNumber() {
        Sentence s = new Sentence("Terms: of the same ones the one that as a number is least");
        eitherOfTwo(s, 40, 40, 1);
        eitherOfTwo(s, 0, 0, 1);
        // A block that adds nothing is not taken; one that adds 1 for each is.
        for (int more = 0; more <= 1; more++) {
            AuctionHour x = Days.rich(2);
            x.order(0, ALL, 0, BUY, 100, 20);
            x.order(0, ALL, 0, SELL, 1, 20);
            x.block(1, ALL, 0, SELL, 10, 20 - more);
            Days.agree(x, 2);
            s.is(more, () -> x.clear(0));
            s.is(10 * more, () -> x.welfare(0));
        }
        // Also behind blocks that never fit.
        AuctionHour x = Days.rich(3);
        for (int k = 0; k < 6; k++) {
            x.block(0, ALL, 0, BUY, 1, -5000);
        }
        x.order(1, ALL, 0, BUY, 10, 50);
        x.order(1, ALL, 0, SELL, 10, 45);
        x.block(1, ALL, 0, SELL, 5, 40);
        x.block(2, ALL, 0, SELL, 5, 40);
        Days.agree(x, 3);
        s.is(64, () -> x.clear(0));
    }

    /** Blocks of 2 and 3 together do what one of 5 does; more than 6 cannot be sold. */
    private static void leastNumberOfSeveral() {
        Sentence s = new Sentence("Terms: as a number (bit k: the k-th block that counts) is least");
        int[][] quantities = {{2, 3, 5}, {2, 5, 3}, {5, 2, 3}};
        int[] due = {3, 2, 1};
        for (int k = 0; k < 3; k++) {
            AuctionHour x = Days.rich(1);
            x.order(0, ALL, 0, BUY, 6, 50);
            x.order(0, ALL, 0, SELL, 6, 45);
            for (int quantity : quantities[k]) {
                x.block(0, ALL, 0, SELL, quantity, 40);
            }
            Days.agree(x, 1);
            s.is(due[k], () -> x.clear(0));
            s.is(300 - 45 - 200, () -> x.welfare(0));
        }
    }

    private static void filledEntry() {
        Sentence s = new Sentence("P13: IllegalArgumentException: an entry that is not 0 .. 9");
        for (int cleared = 0; cleared <= 1; cleared++) {
            AuctionHour x = Days.rich(2);
            for (int k = 0; k < 10; k++) {
                x.order(0, ALL, 0, BUY, k + 1, 10);
            }
            x.order(1, ALL, 0, SELL, 1000, 10);
            Days.agree(x, 2);
            if (cleared == 1) {
                x.clear(0);
            }
            for (int i : new int[] {-1, 10, LEAST, GREATEST}) {
                s.badArgument(() -> x.fill(0, 0, i));
            }
            for (int i = 0; i <= 9 && cleared == 1; i++) {
                int one = i;
                s.is(i + 1, () -> x.fill(0, 0, one));
            }
        }
    }

    private static void filledMember() {
        Sentence s = new Sentence("P13: IllegalArgumentException: no such .. member");
        for (int n = 1; n <= 6; n++) {
            AuctionHour x = new AuctionHour(n);
            x.order(0, ALL, 0, BUY, 1, 0);
            x.order(n - 1, ALL, 0, BUY, 1, 0);
            Days.agree(x, n);
            x.clear(1);
            int last = n - 1;
            s.is(0, () -> x.fill(1, 0, 0));
            s.is(0, () -> x.fill(1, last, 0));
            for (int p : new int[] {-1, n, LEAST, GREATEST}) {
                s.badArgument(() -> x.fill(1, p, 0));
                s.badArgument(() -> x.fill(0, p, 0));
            }
        }
    }

    private static void filledLookedAtLast() {
        Sentence s = new Sentence("P13: or (looked at last) none of the vector");
        AuctionHour x = Days.rich(2);
        x.order(0, ALL, 0, BUY, 10, 50);
        x.block(0, ALL, 0, BUY, 10, 50);
        Days.agree(x, 2);
        // Before it has cleared the state is looked at first.
        s.badState(() -> x.fill(0, 0, 0));
        s.badState(() -> x.fill(0, 0, 2));
        s.badState(() -> x.fill(0, 0, 9));
        s.badState(() -> x.fill(0, 1, 0));
        s.badArgument(() -> x.fill(0, 0, 10));
        s.badArgument(() -> x.fill(0, 0, -1));
        s.badArgument(() -> x.fill(0, 2, 0));
        s.badArgument(() -> x.fill(4, 0, 0));
        x.clear(0);
        s.is(0, () -> x.fill(0, 0, 0));
        s.is(0, () -> x.fill(0, 0, 1));
        s.badArgument(() -> x.fill(0, 0, 2));
        s.badArgument(() -> x.fill(0, 0, 9));
        s.badArgument(() -> x.fill(0, 1, 0));
    }

    private static void welfare() {
        Sentence s = new Sentence("Terms: filled times limit (minus for sellers) and quantity times limit times hours");
        AuctionHour x = Days.rich(2);
        // Partly filled ones count as filled, those below 0 with their sign.
        x.order(0, ALL, 0, BUY, 10, -3);
        x.order(1, ALL, 0, SELL, 4, -6);
        x.order(1, ALL, 0, SELL, 3, -3);
        x.order(0, ALL, 1, BUY, 1, 40_000);
        x.order(1, ALL, 1, SELL, 1, -5000);
        Days.agree(x, 2);
        x.clear(0);
        s.is(7, () -> x.fill(0, 0, 0));
        s.is(-3 * 7 + 6 * 4 + 3 * 3 + 45_000, () -> x.welfare(0));

        AuctionHour blocks = Days.rich(2);
        blocks.block(0, ALL, 2, BUY, 1000, 40_000);
        blocks.block(1, ALL, 2, SELL, 1000, -5000);
        Days.agree(blocks, 2);
        s.is(3, () -> blocks.clear(0));
        s.is(1000L * 45_000 * 3, () -> blocks.welfare(0));
    }

    private static void welfareOfNothing() {
        Sentence s = new Sentence("P14: The welfare of what was cleared: nothing");
        AuctionHour none = new AuctionHour(6);
        Days.agree(none, 6);
        s.badState(() -> none.welfare(0));
        none.clear(0);
        s.is(0, () -> none.welfare(0));
        AuctionHour unfilled = Days.rich(1);
        unfilled.order(0, ALL, 0, BUY, 10, 50);
        unfilled.order(0, ALL, 0, SELL, 10, 51);
        unfilled.block(0, ALL, 0, BUY, 10, 51);
        Days.agree(unfilled, 1);
        unfilled.clear(0);
        s.is(0, () -> unfilled.welfare(0));
    }
}
