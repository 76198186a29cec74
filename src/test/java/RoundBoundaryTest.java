/** The boundaries of the rounds and the liar: promises 6 to 9, and the terms they rest on. */
public final class RoundBoundaryTest {
    private static final int BUY = Sentence.BUY;
    private static final int SELL = Sentence.SELL;
    private static final int ALL = -1;
    private static final int LEAST = Integer.MIN_VALUE;
    private static final int GREATEST = Integer.MAX_VALUE;

    public static void main(String[] args) {
        equalBooks();
        lastEntryOfEqualBooks();
        emptyBooks();
        threeOfFour();
        allMembersSealed();
        threeRounds();
        liarOperator();
        oneLiar();
        liarBeforeRounds();
        tellingTo();
        tellingAbout();
        tellingOfMember();
        tellingItem();
        tellingWithoutLiar();
        tellingInWhichRound();
        tellingInRoundTwo();
        tellingInRoundThree();
        tellingLookedAtLast();
        twoOfThreeWords();
        equalLies();
        lastLieCounts();
        whereItWasSet();
        setOfOneMember();
        passedLies();
        vectorOperator();
        vectorMember();
        vectorWhat();
        vectorEntry();
        vectorHowMany();
        vectorStateFirst();
        Sentence.end();
    }

    /** A book that member 0 can send to any operator. */
    private interface Book {
        void send(AuctionHour x, int op);
    }

    private static Book order(int hour, int side, int quantity, int limit) {
        return (x, op) -> x.order(0, op, hour, side, quantity, limit);
    }

    private static Book block(int hours, int side, int quantity, int limit) {
        return (x, op) -> x.block(0, op, hours, side, quantity, limit);
    }

    private static Book both(Book first, Book second) {
        return (x, op) -> {
            first.send(x, op);
            second.send(x, op);
        };
    }

    /** Two operators have one book, two the other: how many entries are agreed on. */
    private static String twoAndTwo(Book a, Book b) {
        AuctionHour x = Days.rich(1);
        a.send(x, 0);
        b.send(x, 1);
        b.send(x, 2);
        a.send(x, 3);
        Days.agree(x, 1);
        return Days.entries(x, 0);
    }

    private static void equalBooks() {
        Sentence s = new Sentence("Terms: Books are EQUAL when all entries are");
        Book base = order(1, BUY, 5, 10);
        s.same(twoAndTwo(base, order(1, BUY, 5, 10)), "1 1 1 1");
        Book[] others = {order(0, BUY, 5, 10), order(2, BUY, 5, 10), order(1, SELL, 5, 10), order(1, BUY, 6, 10),
            order(1, BUY, 5, 11), order(1, BUY, 5, -10), block(5, BUY, 5, 10)};
        for (Book other : others) {
            s.same(twoAndTwo(base, other), "0 0 0 0");
        }
        Book span = block(1, SELL, 5, 10);
        s.same(twoAndTwo(span, block(1, SELL, 5, 10)), "1 1 1 1");
        Book[] spans = {block(0, SELL, 5, 10), block(2, SELL, 5, 10), block(5, SELL, 5, 10), block(6, SELL, 5, 10),
            block(1, BUY, 5, 10), block(1, SELL, 4, 10), block(1, SELL, 5, 9), order(1, SELL, 5, 10)};
        for (Book other : spans) {
            s.same(twoAndTwo(span, other), "0 0 0 0");
        }
        s.same(twoAndTwo(both(base, span), both(base, span)), "2 2 2 2");
        s.same(twoAndTwo(both(base, span), both(span, base)), "0 0 0 0");
        s.same(twoAndTwo(both(base, span), base), "0 0 0 0");
        s.same(twoAndTwo(both(base, base), base), "0 0 0 0");
    }

    private static void lastEntryOfEqualBooks() {
        Sentence s = new Sentence("Terms: Books are EQUAL when all entries are: the first and the tenth, too");
        for (int other = -1; other < 10; other++) {
            AuctionHour x = new AuctionHour(1);
            for (int i = 0; i < 10; i++) {
                for (int op = 0; op < 4; op++) {
                    x.order(0, op, 0, BUY, i == other && op >= 2 ? 2 : 1, 0);
                }
            }
            Days.agree(x, 1);
            s.same(Days.entries(x, 0), other < 0 ? "10 10 10 10" : "0 0 0 0");
        }
    }

    private static void emptyBooks() {
        Sentence s = new Sentence("Terms: the empty book: equal to the empty one, and agreed on like others");
        for (int sent = 0; sent <= 4; sent++) {
            AuctionHour x = new AuctionHour(1);
            for (int op = 0; op < sent; op++) {
                x.order(0, op, 0, BUY, 1, 0);
            }
            Days.agree(x, 1);
            s.same(Days.entries(x, 0), sent >= 3 ? "1 1 1 1" : "0 0 0 0");
        }
        // A book whose only entry was left out is empty, too.
        AuctionHour x = new AuctionHour(1);
        x.order(0, ALL, 0, BUY, 1, 1);
        Days.agree(x, 1);
        s.same(Days.entries(x, 0), "0 0 0 0");
    }

    /** Each way in which up to four kinds of books go to four operators. */
    private static void threeOfFour() {
        Sentence s = new Sentence("Terms: the book that at least three of the four are, the empty book when no three");
        for (int way = 0; way < 256; way++) {
            AuctionHour x = new AuctionHour(1);
            int[] sentTo = new int[4];
            for (int op = 0; op < 4; op++) {
                int kind = way >> 2 * op & 3;
                sentTo[kind]++;
                x.order(0, op, 0, BUY, kind + 1, 0);
            }
            Days.agree(x, 1);
            int agreed = -1;
            for (int kind = 0; kind < 4; kind++) {
                agreed = sentTo[kind] >= 3 ? kind : agreed;
            }
            for (int op = 0; op < 4; op++) {
                int one = op;
                s.is(agreed < 0 ? 0 : 1, () -> x.vector(one, 0, 0, 4));
                if (agreed >= 0) {
                    s.is(agreed + 1, () -> x.vector(one, 0, 0, 2));
                }
            }
        }
    }

    private static void allMembersSealed() {
        Sentence s = new Sentence("Terms: as soon as all members are sealed; P8: not all members are sealed");
        for (int n = 1; n <= 6; n++) {
            AuctionHour x = new AuctionHour(n);
            for (int p = n - 1; p >= 0; p--) {
                s.badState(x::round);
                s.badState(x::round);
                x.seal(p);
            }
            s.is(1, x::round);
        }
    }

    private static void threeRounds() {
        Sentence s = new Sentence("P8: The next round: its number. IllegalStateException: .. or there were three");
        AuctionHour x = new AuctionHour(2);
        Days.sealAll(x, 2);
        s.is(1, x::round);
        s.is(2, x::round);
        s.is(3, x::round);
        s.badState(x::round);
        s.badState(x::round);
        s.is(0, () -> x.vector(0, 0, 0, 4));
        x.clear(0);
        s.badState(x::round);
    }

    private static void liarOperator() {
        Sentence s = new Sentence("P6: An operator is the liar. IllegalArgumentException: no such operator");
        for (int op = -1; op <= 4; op++) {
            AuctionHour x = new AuctionHour(1);
            int one = op;
            if (op >= 0 && op <= 3) {
                s.goes(() -> x.liar(one));
            } else {
                s.badArgument(() -> x.liar(one));
                s.goes(() -> x.liar(0));
                s.badArgument(() -> x.liar(one));
            }
        }
        AuctionHour x = new AuctionHour(1);
        s.badArgument(() -> x.liar(LEAST));
        s.badArgument(() -> x.liar(GREATEST));
    }

    private static void oneLiar() {
        Sentence s = new Sentence("Terms: THE LIAR (at most one, for the day); P6: there is one already");
        AuctionHour x = new AuctionHour(1);
        s.goes(() -> x.liar(0));
        s.badState(() -> x.liar(0));
        s.badState(() -> x.liar(3));
        x.seal(0);
        s.badState(() -> x.liar(1));
        x.round();
        // It is operator 0 still.
        s.goes(() -> x.tell(1, 0, 0, -1));
        s.badArgument(() -> x.tell(1, 3, 0, -1));
        x.round();
        s.badState(() -> x.liar(0));
    }

    private static void liarBeforeRounds() {
        Sentence s = new Sentence("P6: IllegalStateException: .. or a round is over");
        for (int rounds = 0; rounds <= 3; rounds++) {
            AuctionHour x = new AuctionHour(1);
            x.seal(0);
            Days.rounds(x, rounds);
            if (rounds == 0) {
                s.goes(() -> x.liar(2));
            } else {
                s.badState(() -> x.liar(2));
                s.badState(() -> x.tell(1, 2, 0, -1));
            }
        }
        AuctionHour open = new AuctionHour(2);
        s.goes(() -> open.liar(2));
    }

    /** Operator 1 is the liar, and so many rounds are over. */
    private static AuctionHour lying(int n, int rounds) {
        AuctionHour x = new AuctionHour(n);
        x.liar(1);
        Days.sealAll(x, n);
        Days.rounds(x, rounds);
        return x;
    }

    private static void tellingTo() {
        Sentence s = new Sentence("P7: IllegalArgumentException: no such operators: to");
        for (int rounds = 0; rounds <= 3; rounds++) {
            AuctionHour x = lying(1, rounds);
            int about = rounds == 1 ? 1 : 2;
            for (int to : new int[] {-1, 4, LEAST, GREATEST}) {
                s.badArgument(() -> x.tell(to, about, 0, -1));
            }
        }
        AuctionHour x = lying(1, 1);
        s.goes(() -> x.tell(0, 1, 0, -1));
        s.goes(() -> x.tell(3, 1, 0, -1));
    }

    private static void tellingAbout() {
        Sentence s = new Sentence("P7: IllegalArgumentException: no such operators: about");
        for (int rounds = 0; rounds <= 3; rounds++) {
            AuctionHour x = lying(1, rounds);
            for (int about : new int[] {-1, 4, LEAST, GREATEST}) {
                s.badArgument(() -> x.tell(0, about, 0, -1));
            }
        }
        AuctionHour x = lying(1, 2);
        s.goes(() -> x.tell(3, 0, 0, -1));
        s.goes(() -> x.tell(0, 3, 0, -1));
    }

    private static void tellingOfMember() {
        Sentence s = new Sentence("P7: IllegalArgumentException: no such .. member");
        for (int n = 1; n <= 6; n++) {
            for (int rounds = 0; rounds <= 3; rounds++) {
                AuctionHour x = lying(n, rounds);
                int about = rounds == 1 ? 1 : 2;
                for (int p : new int[] {-1, n, LEAST, GREATEST}) {
                    s.badArgument(() -> x.tell(0, about, p, -1));
                }
            }
            AuctionHour x = lying(n, 1);
            int last = n - 1;
            s.goes(() -> x.tell(0, 1, 0, -1));
            s.goes(() -> x.tell(0, 1, last, -1));
        }
    }

    private static void tellingItem() {
        Sentence s = new Sentence("P7: the book that member m sent to operator k (item = 4 * m + k), or the empty one (-1)");
        for (int n = 1; n <= 6; n++) {
            for (int rounds = 0; rounds <= 3; rounds++) {
                AuctionHour x = lying(n, rounds);
                int about = rounds == 1 ? 1 : 2;
                for (int item : new int[] {-2, 4 * n, LEAST, GREATEST}) {
                    s.badArgument(() -> x.tell(0, about, 0, item));
                }
                if (rounds == 1 || rounds == 2) {
                    for (int item : new int[] {-1, 0, 4 * n - 1}) {
                        s.goes(() -> x.tell(0, about, 0, item));
                    }
                }
            }
        }
    }

    private static void tellingWithoutLiar() {
        Sentence s = new Sentence("P7: IllegalStateException: there is no liar");
        for (int rounds = 0; rounds <= 3; rounds++) {
            AuctionHour x = new AuctionHour(1);
            x.seal(0);
            Days.rounds(x, rounds);
            for (int to = 0; to < 4; to++) {
                for (int about = 0; about < 4; about++) {
                    int one = to;
                    int other = about;
                    s.badState(() -> x.tell(one, other, 0, -1));
                }
            }
        }
    }

    private static void tellingInWhichRound() {
        Sentence s = new Sentence("P7: IllegalStateException: .. or no round 2 or 3 comes next");
        AuctionHour open = new AuctionHour(1);
        open.liar(1);
        s.badState(() -> open.tell(0, 1, 0, -1));
        for (int rounds = 0; rounds <= 3; rounds++) {
            AuctionHour x = lying(1, rounds);
            int about = rounds <= 1 ? 1 : 2;
            if (rounds == 1 || rounds == 2) {
                s.goes(() -> x.tell(0, about, 0, -1));
            } else {
                s.badState(() -> x.tell(0, about, 0, -1));
                s.badState(() -> x.tell(0, 3 - about, 0, -1));
            }
        }
    }

    private static void tellingInRoundTwo() {
        Sentence s = new Sentence("P7: in round 2 about is the liar itself");
        everyPair(s, 1, (liar, to, about) -> about == liar && to != liar);
    }

    private static void tellingInRoundThree() {
        Sentence s = new Sentence("P7: in round 3 a third one");
        everyPair(s, 2, (liar, to, about) -> to != liar && about != liar && about != to);
    }

    private interface Allowed {
        boolean is(int liar, int to, int about);
    }

    private static void everyPair(Sentence s, int rounds, Allowed allowed) {
        for (int liar = 0; liar < 4; liar++) {
            AuctionHour x = new AuctionHour(1);
            x.liar(liar);
            x.seal(0);
            Days.rounds(x, rounds);
            for (int pair = 0; pair < 16; pair++) {
                int to = pair / 4;
                int about = pair % 4;
                if (allowed.is(liar, to, about)) {
                    s.goes(() -> x.tell(to, about, 0, -1));
                } else {
                    s.badArgument(() -> x.tell(to, about, 0, -1));
                }
            }
        }
    }

    private static void tellingLookedAtLast() {
        Sentence s = new Sentence("P7: or (looked at last) to or about is not so");
        for (int rounds : new int[] {0, 3}) {
            AuctionHour x = lying(1, rounds);
            s.badState(() -> x.tell(1, 1, 0, -1));
            s.badState(() -> x.tell(0, 0, 0, -1));
            s.badState(() -> x.tell(1, 2, 0, -1));
            // What is looked at first is looked at before the state.
            s.badArgument(() -> x.tell(4, 1, 0, -1));
            s.badArgument(() -> x.tell(0, -1, 0, -1));
            s.badArgument(() -> x.tell(0, 1, 1, -1));
            s.badArgument(() -> x.tell(0, 1, 0, 4));
        }
        AuctionHour noLiar = new AuctionHour(1);
        noLiar.seal(0);
        noLiar.round();
        s.badState(() -> noLiar.tell(0, 0, 0, -1));
        s.badArgument(() -> noLiar.tell(0, 0, 0, -2));
        s.badArgument(() -> noLiar.tell(0, 0, -1, 0));
        s.badArgument(() -> noLiar.tell(-1, 0, 0, 0));
        s.badArgument(() -> noLiar.tell(0, 4, 0, 0));
    }

    /**
     * Member 0 sends 1 to the first two honest operators, 2 to the third, and to the liar 1 or 3; so
     * the honest ones agree on 1 when the word of the liar is 1, else on nothing. Member 1 sends 1 to
     * all. Round 2 comes next.
     */
    private static AuctionHour divided(int liar, int toLiar) {
        AuctionHour x = new AuctionHour(2);
        int[] honest = Days.honest(liar);
        x.order(0, honest[0], 0, BUY, 1, 0);
        x.order(0, honest[1], 0, BUY, 1, 0);
        x.order(0, honest[2], 0, BUY, 2, 0);
        x.order(0, liar, 0, BUY, toLiar, 0);
        x.order(1, ALL, 0, BUY, 1, 0);
        x.liar(liar);
        Days.sealAll(x, 2);
        x.round();
        return x;
    }

    private static String agreed(int liar, boolean byHonest, boolean byLiar) {
        StringBuilder text = new StringBuilder();
        for (int op = 0; op < 4; op++) {
            boolean hasOne = op == liar ? byLiar : byHonest;
            text.append(op == 0 ? "" : " ").append(hasOne ? 1 : 0);
        }
        return text.toString();
    }

    /** All that the liar can tell to each of three: nothing of its own, 1, 2, or the empty book. */
    private static void twoOfThreeWords() {
        Sentence s = new Sentence("Terms: WORD is what at least two are, the empty book when no two are; OWN(o, o)");
        for (int liar = 0; liar < 4; liar++) {
            int[] honest = Days.honest(liar);
            int[] items = {liar, honest[0], honest[2], -1};
            for (int way = 0; way < 64; way++) {
                for (int toLiar = 1; toLiar <= 3; toLiar += 2) {
                    AuctionHour x = divided(liar, toLiar);
                    int ones = 0;
                    for (int k = 0; k < 3; k++) {
                        int kind = way >> 2 * k & 3;
                        if (kind != 0) {
                            x.tell(honest[k], liar, 0, items[kind]);
                        }
                        ones += kind == 1 || kind == 0 && toLiar == 1 ? 1 : 0;
                    }
                    Days.rounds(x, 2);
                    s.same(Days.entries(x, 0), agreed(liar, ones >= 2, toLiar == 1));
                    s.same(Days.entries(x, 1), "1 1 1 1");
                }
            }
        }
    }

    private static void equalLies() {
        Sentence s = new Sentence("Terms: what at least two are (as equal books)");
        for (int liar = 0; liar < 4; liar++) {
            int[] honest = Days.honest(liar);
            // Three ways to the same book: by another operator's, by another member's, by its own.
            AuctionHour x = divided(liar, 3);
            x.tell(honest[0], liar, 0, honest[1]);
            x.tell(honest[1], liar, 0, 4 + honest[2]);
            Days.rounds(x, 2);
            s.same(Days.entries(x, 0), agreed(liar, true, false));
            AuctionHour y = divided(liar, 1);
            y.tell(honest[0], liar, 0, honest[2]);
            y.tell(honest[2], liar, 0, 4 + liar);
            Days.rounds(y, 2);
            s.same(Days.entries(y, 0), agreed(liar, true, true));
        }
    }

    private static void lastLieCounts() {
        Sentence s = new Sentence("Terms: tells in round 2 what was set by tell() instead: what was set last");
        AuctionHour x = divided(3, 3);
        x.tell(0, 3, 0, 0);
        x.tell(1, 3, 0, 0);
        x.tell(1, 3, 0, -1);
        Days.rounds(x, 2);
        s.same(Days.entries(x, 0), "0 0 0 0");
        AuctionHour y = divided(3, 3);
        y.tell(0, 3, 0, 0);
        y.tell(1, 3, 0, -1);
        y.tell(1, 3, 0, 0);
        Days.rounds(y, 2);
        s.same(Days.entries(y, 0), "1 1 1 0");
    }

    private static void whereItWasSet() {
        Sentence s = new Sentence("Terms: what was set by tell() instead, where it was set");
        AuctionHour x = divided(3, 3);
        // Of the other member, and refused ones of this one: nothing was set here.
        for (int to = 0; to < 3; to++) {
            x.tell(to, 3, 1, 0);
        }
        s.badArgument(() -> x.tell(3, 3, 0, 0));
        s.badArgument(() -> x.tell(1, 0, 0, 0));
        s.badArgument(() -> x.tell(1, 1, 0, 0));
        s.badArgument(() -> x.tell(0, 3, 2, 0));
        s.badArgument(() -> x.tell(0, 3, 0, 8));
        Days.rounds(x, 2);
        s.same(Days.entries(x, 0), "0 0 0 0");
        s.same(Days.entries(x, 1), "1 1 1 1");

        // Refused ones do not undo what was set, either.
        AuctionHour y = divided(3, 3);
        y.tell(0, 3, 0, 0);
        y.tell(1, 3, 0, 0);
        s.badArgument(() -> y.tell(0, 3, 0, -2));
        s.badArgument(() -> y.tell(1, 2, 0, -1));
        s.badArgument(() -> y.tell(0, 0, 0, -1));
        Days.rounds(y, 2);
        s.same(Days.entries(y, 0), "1 1 1 0");
    }

    /**
     * All members are divided, and each has quantities of its own: a lie about one of them is heard of
     * that one alone, whoever it is.
     */
    private static void setOfOneMember() {
        Sentence s = new Sentence("Terms: what was set by tell() instead, where it was set: of each member by itself");
        for (int lied = 0; lied < 6; lied++) {
            AuctionHour x = new AuctionHour(6);
            for (int p = 0; p < 6; p++) {
                x.order(p, 0, 0, BUY, 10 * p + 1, 0);
                x.order(p, 1, 0, BUY, 10 * p + 1, 0);
                x.order(p, 2, 0, BUY, 10 * p + 2, 0);
                x.order(p, 3, 0, BUY, 10 * p + 3, 0);
            }
            x.liar(3);
            Days.sealAll(x, 6);
            x.round();
            x.tell(0, 3, lied, 4 * lied);
            x.tell(2, 3, lied, 4 * lied + 1);
            Days.rounds(x, 2);
            for (int p = 0; p < 6; p++) {
                s.same(Days.entries(x, p), p == lied ? "1 1 1 0" : "0 0 0 0");
            }
            int one = lied;
            s.is(10 * one + 1, () -> x.vector(1, one, 0, 2));
        }
    }

    /** Two honest voices stand against each lie of round 3. */
    private static void passedLies() {
        Sentence s = new Sentence("Terms: passes in round 3 what was set by tell() instead");
        for (int liar = 0; liar < 4; liar++) {
            for (int toLiar = 1; toLiar <= 3; toLiar += 2) {
                for (int item = -1; item < 8; item++) {
                    AuctionHour x = divided(liar, toLiar);
                    x.round();
                    for (int to : Days.honest(liar)) {
                        for (int about : Days.honest(liar)) {
                            if (about != to) {
                                x.tell(to, about, 0, item);
                                x.tell(to, about, 1, item);
                            }
                        }
                    }
                    x.round();
                    s.same(Days.entries(x, 0), agreed(liar, toLiar == 1, toLiar == 1));
                    s.same(Days.entries(x, 1), "1 1 1 1");
                }
            }
        }
    }

    /** Member 0 sent nothing, the last one two entries to all operators. */
    private static AuctionHour twoEntries(int n) {
        AuctionHour x = Days.rich(n);
        x.order(n - 1, ALL, 2, SELL, 30, -40);
        x.block(n - 1, ALL, 6, BUY, 50, 60);
        Days.agree(x, n);
        return x;
    }

    private static void vectorOperator() {
        Sentence s = new Sentence("P9: IllegalArgumentException: no such operator");
        AuctionHour x = twoEntries(1);
        for (int op = 0; op <= 3; op++) {
            int one = op;
            s.is(30, () -> x.vector(one, 0, 0, 2));
            s.is(2, () -> x.vector(one, 0, 0, 4));
        }
        for (int op : new int[] {-1, 4, LEAST, GREATEST}) {
            s.badArgument(() -> x.vector(op, 0, 0, 2));
            s.badArgument(() -> x.vector(op, 0, 0, 4));
        }
    }

    private static void vectorMember() {
        Sentence s = new Sentence("P9: IllegalArgumentException: no such .. member");
        for (int n = 1; n <= 6; n++) {
            AuctionHour x = twoEntries(n);
            int last = n - 1;
            s.is(n == 1 ? 2 : 0, () -> x.vector(0, 0, 0, 4));
            s.is(2, () -> x.vector(0, last, 0, 4));
            s.is(50, () -> x.vector(0, last, 1, 2));
            for (int p : new int[] {-1, n, LEAST, GREATEST}) {
                s.badArgument(() -> x.vector(0, p, 0, 2));
                s.badArgument(() -> x.vector(0, p, 0, 4));
            }
        }
    }

    private static void vectorWhat() {
        Sentence s = new Sentence("P9: what 0 hour or 4 * from + to + 100, 1 its side, 2 quantity, 3 limit; what 4");
        AuctionHour x = twoEntries(2);
        long[][] due = {{2, SELL, 30, -40, 2}, {106, BUY, 50, 60, 2}};
        for (int i = 0; i < 2; i++) {
            for (int what = 0; what <= 4; what++) {
                int entry = i;
                int asked = what;
                s.is(due[i][what], () -> x.vector(0, 1, entry, asked));
            }
        }
        for (int what : new int[] {-1, 5, LEAST, GREATEST}) {
            s.badArgument(() -> x.vector(0, 1, 0, what));
        }
    }

    private static void vectorEntry() {
        Sentence s = new Sentence("P9: IllegalArgumentException: no such .. entry");
        for (int count = 0; count <= 10; count++) {
            AuctionHour x = new AuctionHour(1);
            for (int k = 0; k < count; k++) {
                x.order(0, ALL, 0, BUY, k + 1, 0);
            }
            Days.agree(x, 1);
            for (int what = 0; what <= 3; what++) {
                int end = count;
                int asked = what;
                s.badArgument(() -> x.vector(0, 0, -1, asked));
                s.badArgument(() -> x.vector(0, 0, end, asked));
                s.badArgument(() -> x.vector(0, 0, 10, asked));
                s.badArgument(() -> x.vector(0, 0, LEAST, asked));
                s.badArgument(() -> x.vector(0, 0, GREATEST, asked));
            }
            for (int i = 0; i < count; i++) {
                int one = i;
                s.is(i + 1, () -> x.vector(0, 0, one, 2));
            }
        }
    }

    private static void vectorHowMany() {
        Sentence s = new Sentence("P9: what 4: how many entries there are (i does not matter)");
        AuctionHour x = twoEntries(2);
        for (int i : new int[] {0, 1, 2, 9, 10, -1, LEAST, GREATEST}) {
            s.is(2, () -> x.vector(0, 1, i, 4));
            s.is(0, () -> x.vector(0, 0, i, 4));
        }
    }

    private static void vectorStateFirst() {
        Sentence s = new Sentence("P9: IllegalStateException: three rounds are not over (this first)");
        AuctionHour open = new AuctionHour(1);
        stateBeforeAll(s, open);
        for (int rounds = 0; rounds <= 2; rounds++) {
            AuctionHour x = new AuctionHour(1);
            x.order(0, ALL, 0, BUY, 1, 0);
            x.seal(0);
            Days.rounds(x, rounds);
            stateBeforeAll(s, x);
        }
    }

    private static void stateBeforeAll(Sentence s, AuctionHour x) {
        s.badState(() -> x.vector(0, 0, 0, 0));
        s.badState(() -> x.vector(0, 0, 0, 4));
        s.badState(() -> x.vector(-1, 0, 0, 0));
        s.badState(() -> x.vector(4, 0, 0, 0));
        s.badState(() -> x.vector(0, -1, 0, 0));
        s.badState(() -> x.vector(0, 1, 0, 0));
        s.badState(() -> x.vector(0, 0, 1, 0));
        s.badState(() -> x.vector(0, 0, -1, 0));
        s.badState(() -> x.vector(0, 0, 0, 5));
        s.badState(() -> x.vector(0, 0, 0, -1));
        s.badState(() -> x.vector(LEAST, GREATEST, LEAST, GREATEST));
    }
}
