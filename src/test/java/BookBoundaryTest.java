/** The boundaries of members, collaterals and books: promises 1 to 5, and the terms they rest on. */
public final class BookBoundaryTest {
    private static final int BUY = Sentence.BUY;
    private static final int SELL = Sentence.SELL;
    private static final int ALL = -1;
    private static final int LEAST = Integer.MIN_VALUE;
    private static final int GREATEST = Integer.MAX_VALUE;

    /** 4 * from + to of all the blocks there are. */
    private static final int[] SPANS = {0, 1, 2, 5, 6, 10};

    public static void main(String[] args) {
        members();
        otherNumbersOfMembers();
        collateralsOfNew();
        collateralAmount();
        greatestCollateral();
        collateralFromNowOn();
        collateralOfNoMember();
        collateralOfSender();
        collateralOfEachSender();
        collateralOfSealed();
        senders();
        receivers();
        hoursOfOrder();
        hoursOfBlock();
        sides();
        quantities();
        limits();
        howManyTook();
        needOfBuyer();
        needOfSeller();
        needOfBlock();
        needOfNothing();
        needAboveCollateral();
        needAtThatOperator();
        leftOutNeedsNothing();
        behindTen();
        behindTenThere();
        leftOutTakesNoPlace();
        tenBehindOneAnother();
        untilSealed();
        howManyAreSealed();
        sealedMember();
        sealedAlready();
        Sentence.end();
    }

    private static void members() {
        Sentence s = new Sentence("P1: n members (1 .. 6)");
        for (int n = 1; n <= 6; n++) {
            AuctionHour x = new AuctionHour(n);
            int last = n - 1;
            s.badArgument(() -> x.seal(last + 1));
            for (int p = 0; p < n; p++) {
                int member = p;
                s.badState(x::round);
                s.is(p + 1, () -> x.seal(member));
            }
            s.is(1, x::round);
        }
    }

    private static void otherNumbersOfMembers() {
        Sentence s = new Sentence("P1: others: 1");
        for (int n : new int[] {0, 7, -1, 8, LEAST, GREATEST}) {
            AuctionHour x = new AuctionHour(n);
            s.badArgument(() -> x.seal(1));
            s.badArgument(() -> x.seal(-1));
            s.badArgument(() -> x.collateral(1, 0));
            s.is(1, () -> x.seal(0));
            s.is(1, x::round);
        }
    }

    private static void collateralsOfNew() {
        Sentence s = new Sentence("P1: collaterals 0");
        AuctionHour x = new AuctionHour(6);
        for (int p = 0; p < 6; p++) {
            int member = p;
            s.is(0, () -> x.order(member, ALL, 0, BUY, 1, 1));
            s.is(0, () -> x.order(member, ALL, 0, SELL, 1, -1));
            s.is(4, () -> x.order(member, ALL, 0, BUY, 1, 0));
            s.is(4, () -> x.order(member, ALL, 0, SELL, 1, 0));
        }
    }

    private static void collateralAmount() {
        Sentence s = new Sentence("P2: A member's collateral (0 .. 1,000,000,000)");
        AuctionHour x = new AuctionHour(1);
        s.goes(() -> x.collateral(0, 0));
        s.goes(() -> x.collateral(0, 1));
        s.goes(() -> x.collateral(0, 999_999_999));
        s.goes(() -> x.collateral(0, 1_000_000_000));
        s.goes(() -> x.collateral(0, 10));
        s.badArgument(() -> x.collateral(0, -1));
        s.badArgument(() -> x.collateral(0, 1_000_000_001));
        s.badArgument(() -> x.collateral(0, LEAST));
        s.badArgument(() -> x.collateral(0, GREATEST));
        // What was refused set nothing: it is 10 still.
        s.is(0, () -> x.order(0, ALL, 0, BUY, 1, 11));
        s.is(4, () -> x.order(0, ALL, 0, BUY, 1, 10));
        s.is(0, () -> x.order(0, ALL, 0, BUY, 1, 1));

        AuctionHour none = new AuctionHour(1);
        none.collateral(0, 5);
        s.goes(() -> none.collateral(0, 0));
        s.is(0, () -> none.order(0, ALL, 0, BUY, 1, 1));
    }

    /** Eight blocks of 120,000,000 and an order of 40,000,000 need the most that can be had. */
    private static void greatestCollateral() {
        Sentence s = new Sentence("P2: .. 1,000,000,000, needed to the last one");
        for (int missing = 0; missing <= 1; missing++) {
            AuctionHour x = new AuctionHour(1);
            x.collateral(0, 1_000_000_000 - missing);
            for (int k = 0; k < 8; k++) {
                s.is(4, () -> x.block(0, ALL, 2, BUY, 1000, 40_000));
            }
            s.is(0, () -> x.block(0, ALL, 2, BUY, 1000, 40_000));
            s.is(missing == 0 ? 4 : 0, () -> x.order(0, ALL, 2, BUY, 1000, 40_000));
            s.is(missing == 0 ? 0 : 4, () -> x.order(0, ALL, 2, BUY, 1, 1));
        }
    }

    private static void collateralFromNowOn() {
        Sentence s = new Sentence("P2: A member's collateral, from now on");
        AuctionHour x = new AuctionHour(3);
        x.collateral(1, 900);
        s.goes(() -> x.collateral(1, 20));
        s.is(0, () -> x.order(1, ALL, 0, BUY, 1, 21));
        s.is(4, () -> x.order(1, ALL, 0, BUY, 1, 20));
        // Each member has one of its own.
        s.is(0, () -> x.order(0, ALL, 0, BUY, 1, 1));
        s.is(0, () -> x.order(2, ALL, 0, BUY, 1, 1));
    }

    private static void collateralOfNoMember() {
        Sentence s = new Sentence("P2: IllegalArgumentException: no such member");
        for (int n = 1; n <= 6; n++) {
            AuctionHour x = new AuctionHour(n);
            int last = n - 1;
            s.goes(() -> x.collateral(0, 1));
            s.goes(() -> x.collateral(last, 1));
            s.badArgument(() -> x.collateral(-1, 1));
            s.badArgument(() -> x.collateral(last + 1, 1));
            s.badArgument(() -> x.collateral(LEAST, 1));
            s.badArgument(() -> x.collateral(GREATEST, 1));
        }
    }

    private static void collateralOfSender() {
        Sentence s = new Sentence("P2: IllegalStateException: the member has sent something");
        AuctionHour order = new AuctionHour(2);
        s.is(1, () -> order.order(0, 3, 0, BUY, 1, 0));
        s.badState(() -> order.collateral(0, 5));
        s.goes(() -> order.collateral(1, 5));
        s.is(0, () -> order.order(0, ALL, 0, BUY, 1, 1));

        AuctionHour block = new AuctionHour(1);
        s.is(1, () -> block.block(0, 0, 0, SELL, 1, 0));
        s.badState(() -> block.collateral(0, 5));

        // What is left out everywhere has been sent, too.
        AuctionHour leftOut = new AuctionHour(1);
        s.is(0, () -> leftOut.order(0, 2, 0, BUY, 1, 1));
        s.badState(() -> leftOut.collateral(0, 1));
        AuctionHour leftOutBlock = new AuctionHour(1);
        s.is(0, () -> leftOutBlock.block(0, ALL, 0, BUY, 1, 1));
        s.badState(() -> leftOutBlock.collateral(0, 1));

        // What is refused has not.
        AuctionHour refused = new AuctionHour(1);
        s.badArgument(() -> refused.order(0, ALL, 0, BUY, 0, 0));
        s.badArgument(() -> refused.order(0, ALL, 3, BUY, 1, 0));
        s.badArgument(() -> refused.order(0, 4, 0, BUY, 1, 0));
        s.badArgument(() -> refused.block(0, ALL, 4, BUY, 1, 0));
        s.badArgument(() -> refused.block(0, ALL, 0, BUY, 1, 40_001));
        s.goes(() -> refused.collateral(0, 1));
    }

    private static void collateralOfEachSender() {
        Sentence s = new Sentence("P2: the member has sent something: that one alone");
        for (int sender = 0; sender < 6; sender++) {
            AuctionHour order = new AuctionHour(6);
            AuctionHour block = new AuctionHour(6);
            order.order(sender, 1, 0, BUY, 1, 0);
            block.block(sender, 1, 0, BUY, 1, 0);
            for (int p = 0; p < 6; p++) {
                int member = p;
                if (p == sender) {
                    s.badState(() -> order.collateral(member, 5));
                    s.badState(() -> block.collateral(member, 5));
                } else {
                    s.goes(() -> order.collateral(member, 5));
                    s.goes(() -> block.collateral(member, 5));
                }
            }
        }
    }

    private static void collateralOfSealed() {
        Sentence s = new Sentence("P2: IllegalStateException: .. or is sealed");
        AuctionHour x = new AuctionHour(2);
        x.seal(1);
        s.badState(() -> x.collateral(1, 5));
        s.goes(() -> x.collateral(0, 5));
        x.seal(0);
        s.badState(() -> x.collateral(0, 5));
        Days.rounds(x, 3);
        s.badState(() -> x.collateral(0, 5));
    }

    private static void senders() {
        Sentence s = new Sentence("Terms: MEMBERS 0 .. n - 1 (up to 6); P3, P4: any of these is not so");
        for (int n = 1; n <= 6; n++) {
            AuctionHour x = new AuctionHour(n);
            int last = n - 1;
            s.is(4, () -> x.order(0, ALL, 0, BUY, 1, 0));
            s.is(4, () -> x.order(last, ALL, 0, BUY, 1, 0));
            s.is(4, () -> x.block(0, ALL, 0, BUY, 1, 0));
            s.is(4, () -> x.block(last, ALL, 0, BUY, 1, 0));
            for (int p : new int[] {-1, n, LEAST, GREATEST}) {
                s.badArgument(() -> x.order(p, ALL, 0, BUY, 1, 0));
                s.badArgument(() -> x.block(p, ALL, 0, BUY, 1, 0));
            }
        }
    }

    private static void receivers() {
        Sentence s = new Sentence("Terms: OPERATORS 0 .. 3; P3, P4: to an operator (-1: to all)");
        AuctionHour x = new AuctionHour(1);
        for (int op = 0; op <= 3; op++) {
            int one = op;
            s.is(1, () -> x.order(0, one, 0, BUY, 1, 0));
            s.is(1, () -> x.block(0, one, 0, BUY, 1, 0));
        }
        s.is(4, () -> x.order(0, -1, 0, BUY, 1, 0));
        s.is(4, () -> x.block(0, -1, 0, BUY, 1, 0));
        for (int op : new int[] {-2, 4, LEAST, GREATEST}) {
            s.badArgument(() -> x.order(0, op, 0, BUY, 1, 0));
            s.badArgument(() -> x.block(0, op, 0, BUY, 1, 0));
        }
        // Four entries each by now, and nothing of what was refused.
        Days.agree(x, 1);
        s.same(Days.entries(x, 0), "4 4 4 4");
    }

    private static void hoursOfOrder() {
        Sentence s = new Sentence("Terms: HOURS 0, 1, 2; P3: any of these is not so");
        AuctionHour x = new AuctionHour(1);
        for (int hour = 0; hour <= 2; hour++) {
            int one = hour;
            s.is(4, () -> x.order(0, ALL, one, SELL, 1, 0));
        }
        for (int hour : new int[] {-1, 3, 100, LEAST, GREATEST}) {
            s.badArgument(() -> x.order(0, ALL, hour, SELL, 1, 0));
        }
        Days.agree(x, 1);
        for (int hour = 0; hour <= 2; hour++) {
            int one = hour;
            s.is(hour, () -> x.vector(0, 0, one, 0));
        }
        s.is(3, () -> x.vector(0, 0, 0, 4));
    }

    private static void hoursOfBlock() {
        Sentence s = new Sentence("Terms: BLOCKS (from, to: hours from <= to); P4: hours is 4 * from + to");
        AuctionHour x = new AuctionHour(1);
        for (int hours = -8; hours <= 20; hours++) {
            int one = hours;
            int from = Math.floorDiv(hours, 4);
            int to = Math.floorMod(hours, 4);
            if (from >= 0 && from <= to && to <= 2) {
                s.is(4, () -> x.block(0, ALL, one, SELL, 1, 0));
            } else {
                s.badArgument(() -> x.block(0, ALL, one, SELL, 1, 0));
            }
        }
        for (int hours : new int[] {100, 102, -100, LEAST, LEAST + 1, GREATEST, GREATEST - 1}) {
            s.badArgument(() -> x.block(0, ALL, hours, SELL, 1, 0));
        }
        Days.agree(x, 1);
        s.is(SPANS.length, () -> x.vector(0, 0, 0, 4));
        for (int i = 0; i < SPANS.length; i++) {
            int one = i;
            s.is(100 + SPANS[i], () -> x.vector(3, 0, one, 0));
        }
    }

    private static void sides() {
        Sentence s = new Sentence("Terms: a side 0 buy, 1 sell");
        AuctionHour x = new AuctionHour(1);
        s.is(4, () -> x.order(0, ALL, 0, 0, 1, 0));
        s.is(4, () -> x.order(0, ALL, 0, 1, 1, 0));
        s.is(4, () -> x.block(0, ALL, 0, 0, 1, 0));
        s.is(4, () -> x.block(0, ALL, 0, 1, 1, 0));
        for (int side : new int[] {-1, 2, LEAST, GREATEST}) {
            s.badArgument(() -> x.order(0, ALL, 0, side, 1, 0));
            s.badArgument(() -> x.block(0, ALL, 0, side, 1, 0));
        }
        Days.agree(x, 1);
        s.is(4, () -> x.vector(0, 0, 0, 4));
        for (int i = 0; i < 4; i++) {
            int one = i;
            s.is(i % 2, () -> x.vector(0, 0, one, 1));
        }
    }

    private static void quantities() {
        Sentence s = new Sentence("Terms: a quantity 1 .. 1,000; side, quantity, limit likewise");
        AuctionHour x = new AuctionHour(1);
        s.is(4, () -> x.order(0, ALL, 0, BUY, 1, 0));
        s.is(4, () -> x.order(0, ALL, 0, BUY, 1000, 0));
        s.is(4, () -> x.block(0, ALL, 0, BUY, 1, 0));
        s.is(4, () -> x.block(0, ALL, 0, BUY, 1000, 0));
        for (int quantity : new int[] {0, -1, 1001, LEAST, GREATEST}) {
            s.badArgument(() -> x.order(0, ALL, 0, BUY, quantity, 0));
            s.badArgument(() -> x.block(0, ALL, 0, BUY, quantity, 0));
        }
        Days.agree(x, 1);
        s.is(4, () -> x.vector(0, 0, 0, 4));
        for (int i = 0; i < 4; i++) {
            int one = i;
            s.is(i % 2 == 0 ? 1 : 1000, () -> x.vector(0, 0, one, 2));
        }
    }

    private static void limits() {
        Sentence s = new Sentence("Terms: a limit -5,000 .. 40,000; side, quantity, limit likewise");
        AuctionHour x = Days.rich(1);
        s.is(4, () -> x.order(0, ALL, 0, BUY, 1, -5000));
        s.is(4, () -> x.order(0, ALL, 0, BUY, 1, 40_000));
        s.is(4, () -> x.block(0, ALL, 0, SELL, 1, -5000));
        s.is(4, () -> x.block(0, ALL, 0, SELL, 1, 40_000));
        for (int limit : new int[] {-5001, 40_001, LEAST, GREATEST}) {
            for (int side = BUY; side <= SELL; side++) {
                int one = side;
                s.badArgument(() -> x.order(0, ALL, 0, one, 1, limit));
                s.badArgument(() -> x.block(0, ALL, 0, one, 1, limit));
            }
        }
        Days.agree(x, 1);
        s.is(4, () -> x.vector(0, 0, 0, 4));
        for (int i = 0; i < 4; i++) {
            int one = i;
            s.is(i % 2 == 0 ? -5000 : 40_000, () -> x.vector(0, 0, one, 3));
        }
    }

    /** Operators 0 .. full - 1 have no collateral left, the others have all of it. */
    private static void howManyTook() {
        Sentence s = new Sentence("P3, P4: at how many it was taken");
        for (int full = 0; full <= 4; full++) {
            AuctionHour x = new AuctionHour(1);
            x.collateral(0, 6);
            for (int op = 0; op < full; op++) {
                x.order(0, op, 0, BUY, 6, 1);
            }
            for (int op = 0; op < 4; op++) {
                int one = op;
                s.is(op < full ? 0 : 1, () -> x.order(0, one, 0, BUY, 2, 1));
            }
            s.is(4 - full, () -> x.order(0, ALL, 0, BUY, 2, 1));
            s.is(4 - full, () -> x.block(0, ALL, 0, BUY, 2, 1));
            s.is(0, () -> x.block(0, ALL, 0, BUY, 1, 1));
            s.is(4, () -> x.block(0, ALL, 0, BUY, 1, 0));
        }
    }

    /** An entry that is taken with just that collateral and left out with one less. */
    private static void needs(Sentence s, long need, int hours, int side, int quantity, int limit) {
        for (int missing = 0; missing <= 1 && missing <= need; missing++) {
            AuctionHour x = new AuctionHour(1);
            x.collateral(0, (int) need - missing);
            boolean isOrder = hours < 0;
            s.is(missing == 0 ? 4 : 0, () -> isOrder
                    ? x.order(0, ALL, 1, side, quantity, limit)
                    : x.block(0, ALL, hours, side, quantity, limit));
        }
    }

    private static void needOfBuyer() {
        Sentence s = new Sentence("Terms: quantity times the limit of a buying one that is above 0 (0 otherwise)");
        needs(s, 40_000_000, -1, BUY, 1000, 40_000);
        needs(s, 39_999, -1, BUY, 1, 39_999);
        needs(s, 14, -1, BUY, 2, 7);
        needs(s, 1000, -1, BUY, 1000, 1);
        needs(s, 1, -1, BUY, 1, 1);
        needs(s, 0, -1, BUY, 1000, 0);
        needs(s, 0, -1, BUY, 1000, -1);
        needs(s, 0, -1, BUY, 1000, -5000);
    }

    private static void needOfSeller() {
        Sentence s = new Sentence("Terms: or minus the limit of a selling one that is below 0 (0 otherwise)");
        needs(s, 5_000_000, -1, SELL, 1000, -5000);
        needs(s, 4999, -1, SELL, 1, -4999);
        needs(s, 14, -1, SELL, 2, -7);
        needs(s, 1000, -1, SELL, 1000, -1);
        needs(s, 1, -1, SELL, 1, -1);
        needs(s, 0, -1, SELL, 1000, 0);
        needs(s, 0, -1, SELL, 1000, 1);
        needs(s, 0, -1, SELL, 1000, 40_000);
    }

    private static void needOfBlock() {
        Sentence s = new Sentence("Terms: a block's times its hours");
        int[] lengths = {1, 2, 3, 1, 2, 1};
        for (int k = 0; k < SPANS.length; k++) {
            needs(s, 21L * lengths[k], SPANS[k], BUY, 3, 7);
            needs(s, 40_000_000L * lengths[k], SPANS[k], BUY, 1000, 40_000);
            needs(s, 0, SPANS[k], BUY, 1000, 0);
            needs(s, 0, SPANS[k], BUY, 1000, -1);
            needs(s, 21L * lengths[k], SPANS[k], SELL, 3, -7);
            needs(s, 5_000_000L * lengths[k], SPANS[k], SELL, 1000, -5000);
            needs(s, 0, SPANS[k], SELL, 1000, 0);
            needs(s, 0, SPANS[k], SELL, 1000, 1);
        }
    }

    private static void needOfNothing() {
        Sentence s = new Sentence("Terms: (0 otherwise): what needs nothing makes no room for what does");
        AuctionHour x = new AuctionHour(1);
        x.collateral(0, 10);
        s.is(4, () -> x.order(0, ALL, 0, BUY, 1000, -5000));
        s.is(4, () -> x.order(0, ALL, 0, SELL, 1000, 40_000));
        s.is(4, () -> x.block(0, ALL, 2, BUY, 1000, -5000));
        s.is(4, () -> x.block(0, ALL, 2, SELL, 1000, 40_000));
        s.is(0, () -> x.order(0, ALL, 0, BUY, 1, 11));
        s.is(0, () -> x.order(0, ALL, 0, SELL, 1, -11));
        s.is(4, () -> x.order(0, ALL, 0, BUY, 1, 10));
        s.is(0, () -> x.order(0, ALL, 0, SELL, 1, -1));
    }

    private static void needAboveCollateral() {
        Sentence s = new Sentence("Terms: an entry with which the need of the book would be above the collateral");
        AuctionHour x = new AuctionHour(2);
        x.collateral(0, 100);
        x.collateral(1, 100);
        s.is(4, () -> x.order(0, ALL, 0, BUY, 10, 6));
        s.is(0, () -> x.order(0, ALL, 1, SELL, 41, -1));
        s.is(4, () -> x.order(0, ALL, 1, SELL, 10, -1));
        s.is(0, () -> x.block(0, ALL, 1, BUY, 1, 16));
        s.is(4, () -> x.block(0, ALL, 1, BUY, 1, 15));
        s.is(0, () -> x.order(0, ALL, 2, BUY, 1, 1));
        s.is(0, () -> x.block(0, ALL, 10, SELL, 1, -1));
        s.is(4, () -> x.order(0, ALL, 2, BUY, 1, 0));
        s.is(4, () -> x.block(0, ALL, 2, SELL, 1000, 40_000));
        // The other member's need is its own.
        s.is(4, () -> x.order(1, ALL, 0, BUY, 100, 1));
        s.is(0, () -> x.order(1, ALL, 0, BUY, 1, 1));
    }

    private static void needAtThatOperator() {
        Sentence s = new Sentence("Terms: is LEFT OUT there");
        AuctionHour x = new AuctionHour(1);
        x.collateral(0, 10);
        s.is(1, () -> x.order(0, 1, 0, BUY, 1, 10));
        s.is(0, () -> x.order(0, 1, 0, BUY, 1, 1));
        s.is(3, () -> x.order(0, ALL, 0, BUY, 1, 9));
        s.is(3, () -> x.order(0, ALL, 0, BUY, 1, 1));
        s.is(0, () -> x.order(0, ALL, 0, BUY, 1, 1));
        Days.agree(x, 1);
        // Three books of 9 and 1, one of 10: the three are agreed on.
        s.same(Days.entries(x, 0), "2 2 2 2");
        s.is(9, () -> x.vector(1, 0, 0, 3));
        s.is(1, () -> x.vector(1, 0, 1, 3));
    }

    private static void leftOutNeedsNothing() {
        Sentence s = new Sentence("Terms: is LEFT OUT: it is not in the book and the book does not need it");
        AuctionHour x = new AuctionHour(1);
        x.collateral(0, 10);
        s.is(0, () -> x.order(0, ALL, 0, BUY, 1, 11));
        s.is(0, () -> x.order(0, ALL, 0, BUY, 1000, 40_000));
        s.is(4, () -> x.order(0, ALL, 0, BUY, 1, 4));
        s.is(0, () -> x.order(0, ALL, 0, BUY, 1, 7));
        s.is(4, () -> x.order(0, ALL, 0, BUY, 1, 6));
        Days.agree(x, 1);
        s.is(2, () -> x.vector(0, 0, 0, 4));
        s.is(4, () -> x.vector(0, 0, 0, 3));
        s.is(6, () -> x.vector(0, 0, 1, 3));
    }

    private static void behindTen() {
        Sentence s = new Sentence("Terms: at most 10 ENTRIES; LEFT OUT .. and so is one behind 10");
        AuctionHour x = new AuctionHour(2);
        for (int k = 0; k < 10; k++) {
            int quantity = k + 1;
            s.is(4, () -> quantity % 2 == 0
                    ? x.order(0, ALL, 0, BUY, quantity, 0)
                    : x.block(0, ALL, 2, SELL, quantity, 0));
        }
        s.is(0, () -> x.order(0, ALL, 0, BUY, 11, 0));
        s.is(0, () -> x.block(0, ALL, 0, BUY, 11, 0));
        s.is(0, () -> x.order(0, 3, 0, BUY, 11, 0));
        s.is(4, () -> x.order(1, ALL, 0, BUY, 12, 0));
        Days.agree(x, 2);
        s.same(Days.entries(x, 0), "10 10 10 10");
        s.is(1, () -> x.vector(0, 0, 0, 2));
        s.is(10, () -> x.vector(0, 0, 9, 2));
        s.badArgument(() -> x.vector(0, 0, 10, 2));
        s.same(Days.entries(x, 1), "1 1 1 1");
        s.is(12, () -> x.vector(0, 1, 0, 2));
    }

    private static void behindTenThere() {
        Sentence s = new Sentence("Terms: LEFT OUT there, and so is one behind 10");
        AuctionHour x = new AuctionHour(1);
        for (int k = 0; k < 9; k++) {
            s.is(1, () -> x.order(0, 2, 0, BUY, 1, 0));
        }
        s.is(4, () -> x.order(0, ALL, 0, BUY, 2, 0));
        s.is(3, () -> x.order(0, ALL, 0, BUY, 3, 0));
        s.is(3, () -> x.block(0, ALL, 0, BUY, 4, 0));
        s.is(0, () -> x.block(0, 2, 0, BUY, 4, 0));
        s.is(1, () -> x.order(0, 1, 0, BUY, 5, 0));
    }

    private static void leftOutTakesNoPlace() {
        Sentence s = new Sentence("Terms: at most 10 ENTRIES: what was left out is none of them");
        AuctionHour x = new AuctionHour(1);
        x.collateral(0, 1);
        for (int k = 0; k < 12; k++) {
            s.is(0, () -> x.order(0, ALL, 0, BUY, 1, 2));
        }
        for (int k = 0; k < 9; k++) {
            s.is(4, () -> x.order(0, ALL, 0, BUY, 1, 0));
        }
        s.is(0, () -> x.order(0, ALL, 0, BUY, 1, 2));
        s.is(4, () -> x.order(0, ALL, 0, BUY, 1, 1));
        s.is(0, () -> x.order(0, ALL, 0, BUY, 1, 0));
    }

    private static void tenBehindOneAnother() {
        Sentence s = new Sentence("Terms: in the order in which they were sent");
        AuctionHour x = Days.rich(1);
        int[] limits = {5, -3, 40_000, 0, 7, 7, -5000, 1, 2, 6};
        for (int limit : limits) {
            x.order(0, ALL, 0, BUY, 1, limit);
        }
        Days.agree(x, 1);
        for (int i = 0; i < limits.length; i++) {
            int one = i;
            s.is(limits[i], () -> x.vector(2, 0, one, 3));
        }
    }

    private static void untilSealed() {
        Sentence s = new Sentence("Terms: until it is sealed; P3, P4: IllegalStateException: the member is sealed");
        AuctionHour x = new AuctionHour(2);
        s.is(4, () -> x.order(0, ALL, 0, BUY, 1, 0));
        x.seal(0);
        s.badState(() -> x.order(0, ALL, 0, BUY, 1, 0));
        s.badState(() -> x.order(0, 3, 0, BUY, 1, 0));
        s.badState(() -> x.block(0, ALL, 0, BUY, 1, 0));
        s.badState(() -> x.block(0, 0, 0, BUY, 1, 0));
        // Also where it would be left out.
        s.badState(() -> x.order(0, ALL, 0, BUY, 1, 1));
        s.is(4, () -> x.order(1, ALL, 0, BUY, 1, 0));
        s.is(4, () -> x.block(1, ALL, 0, BUY, 1, 0));
        x.seal(1);
        s.badState(() -> x.order(1, ALL, 0, BUY, 1, 0));
        Days.rounds(x, 3);
        s.badState(() -> x.block(1, ALL, 0, BUY, 1, 0));
        s.same(Days.entries(x, 0), "1 1 1 1");
        s.same(Days.entries(x, 1), "2 2 2 2");
    }

    private static void howManyAreSealed() {
        Sentence s = new Sentence("P5: A member is sealed: how many are");
        for (int n = 1; n <= 6; n++) {
            AuctionHour x = new AuctionHour(n);
            for (int k = 0; k < n; k++) {
                int member = n - 1 - k;
                s.is(k + 1, () -> x.seal(member));
            }
        }
    }

    private static void sealedMember() {
        Sentence s = new Sentence("P5: IllegalArgumentException: no such member");
        for (int n = 1; n <= 6; n++) {
            AuctionHour x = new AuctionHour(n);
            for (int p : new int[] {-1, n, LEAST, GREATEST}) {
                s.badArgument(() -> x.seal(p));
            }
            s.is(1, () -> x.seal(0));
            for (int p : new int[] {-1, n}) {
                s.badArgument(() -> x.seal(p));
            }
        }
    }

    private static void sealedAlready() {
        Sentence s = new Sentence("P5: IllegalStateException: it is sealed already");
        AuctionHour x = new AuctionHour(3);
        s.is(1, () -> x.seal(1));
        s.badState(() -> x.seal(1));
        s.is(2, () -> x.seal(2));
        s.badState(() -> x.seal(1));
        s.badState(() -> x.seal(2));
        s.badState(x::round);
        s.is(3, () -> x.seal(0));
        s.badState(() -> x.seal(0));
        Days.rounds(x, 3);
        s.badState(() -> x.seal(0));
    }
}
