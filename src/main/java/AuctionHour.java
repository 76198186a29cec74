/**
 * Four operators of an electricity auction, one of whom may lie: they agree on the sealed books
 * of all members in three rounds, and each clears the day from the vector it holds.
 *
 * <p>All rows are made by the constructors and used again each day; no later call makes an object.
 */
public final class AuctionHour {
    private static final int MOST_MEMBERS = 6;
    private static final int OPERATORS = 4;
    private static final int HOURS = 3;
    private static final int BUY = 0;
    private static final int SELL = 1;
    private static final int ALL = -1;
    private static final int NOBODY = -1;
    private static final int NO_BOOK = -1;

    private static final int MOST_ENTRIES = 10;
    private static final int MOST_SLOTS = MOST_MEMBERS * MOST_ENTRIES;
    private static final int MOST_BLOCKS = 8;
    private static final int MOST_QUANTITY = 1000;
    private static final int LEAST_PRICE = -5000;
    private static final int GREATEST_PRICE = 40000;
    private static final int MOST_COLLATERAL = 1000000000;
    private static final int MOST_METERED = 1000000;
    private static final int FEE = 50;
    private static final int LAST_ROUND = 3;

    /** What stands above the hours of a block, so that no block looks like an order. */
    private static final int BLOCK_MARK = 100;
    private static final int SPAN = 4;

    /** The book behind those of all members and operators: nobody sends to it. */
    private static final int EMPTY_BOOK = MOST_MEMBERS * OPERATORS;

    private static final int WHEN = 0;
    private static final int SIDE = 1;
    private static final int QUANTITY = 2;
    private static final int COUNT = 4;

    private final int members;
    private final int[] collaterals;
    private final boolean[] hasSent;
    private final boolean[] isSealed;
    private final int[] metered;
    private final Books books;
    private final Agreement agreement;
    private final Market market;
    private final Outcome[] outcomes;
    private int sealedCount;

    public AuctionHour(int n) {
        members = n >= 1 && n <= MOST_MEMBERS ? n : 1;
        collaterals = new int[MOST_MEMBERS];
        hasSent = new boolean[MOST_MEMBERS];
        isSealed = new boolean[MOST_MEMBERS];
        metered = new int[MOST_MEMBERS * HOURS];
        books = new Books();
        agreement = new Agreement(books);
        market = new Market(books);
        outcomes = new Outcome[OPERATORS];
        for (int k = 0; k < OPERATORS; k++) {
            outcomes[k] = new Outcome();
        }
        sealedCount = 0;
    }

    public void collateral(int p, int amount) throws IllegalArgumentException, IllegalStateException {
        if (!isMember(p) || amount < 0 || amount > MOST_COLLATERAL) {
            throw new IllegalArgumentException("no such member or amount");
        }
        if (hasSent[p] || isSealed[p]) {
            throw new IllegalStateException("the member has sent something or is sealed");
        }
        collaterals[p] = amount;
    }

    public int order(int p, int op, int hour, int side, int quantity, int limit)
            throws IllegalArgumentException, IllegalStateException {
        if (!isHour(hour)) {
            throw new IllegalArgumentException("no such hour");
        }
        return send(p, op, hour, side, quantity, limit);
    }

    public int block(int p, int op, int hours, int side, int quantity, int limit)
            throws IllegalArgumentException, IllegalStateException {
        if (!isSpan(hours)) {
            throw new IllegalArgumentException("no such hours");
        }
        return send(p, op, BLOCK_MARK + hours, side, quantity, limit);
    }

    public int seal(int p) throws IllegalArgumentException, IllegalStateException {
        if (!isMember(p)) {
            throw new IllegalArgumentException("no such member");
        }
        if (isSealed[p]) {
            throw new IllegalStateException("the member is sealed already");
        }
        isSealed[p] = true;
        sealedCount++;
        return sealedCount;
    }

    public void liar(int op) throws IllegalArgumentException, IllegalStateException {
        if (!isOperator(op)) {
            throw new IllegalArgumentException("no such operator");
        }
        if (agreement.hasLiar() || agreement.rounds > 0) {
            throw new IllegalStateException("there is a liar or a round is over");
        }
        agreement.liarOperator = op;
    }

    public void tell(int to, int about, int p, int item) throws IllegalArgumentException, IllegalStateException {
        if (!isOperator(to) || !isOperator(about) || !isMember(p) || !isItem(item)) {
            throw new IllegalArgumentException("no such operators, member or item");
        }
        if (!agreement.hasLiar() || !agreement.isTellingNext()) {
            throw new IllegalStateException("there is no liar, or no round 2 or 3 comes next");
        }
        if (!agreement.mayLie(to, about)) {
            throw new IllegalArgumentException("the liar says no such thing in the next round");
        }
        agreement.setLie(to, about, p, item == -1 ? EMPTY_BOOK : item);
    }

    public int round() throws IllegalStateException {
        if (sealedCount < members || agreement.isOver()) {
            throw new IllegalStateException("not all members are sealed, or there were three rounds");
        }
        return agreement.goOn(members);
    }

    public int vector(int op, int p, int i, int what) throws IllegalArgumentException, IllegalStateException {
        if (!agreement.isOver()) {
            throw new IllegalStateException("three rounds are not over");
        }
        if (!isOperator(op) || !isMember(p) || what < WHEN || what > COUNT) {
            throw new IllegalArgumentException("no such operator, member or what");
        }
        int book = agreement.agreedBook(op, p);
        if (what == COUNT) {
            return books.counts[book];
        }
        if (i < 0 || i >= books.counts[book]) {
            throw new IllegalArgumentException("no such entry");
        }
        return books.detail(MOST_ENTRIES * book + i, what);
    }

    public int clear(int op) throws IllegalArgumentException, IllegalStateException {
        if (!isOperator(op)) {
            throw new IllegalArgumentException("no such operator");
        }
        if (!agreement.isOver()) {
            throw new IllegalStateException("three rounds are not over");
        }
        // The vector stays as it is for the day, so a second clearing would find the same.
        if (!outcomes[op].isDone) {
            market.load(agreement, op, members);
            market.settleInto(outcomes[op]);
        }
        return outcomes[op].takenSet;
    }

    public int price(int op, int hour) throws IllegalArgumentException, IllegalStateException {
        if (!isOperator(op) || !isHour(hour)) {
            throw new IllegalArgumentException("no such operator or hour");
        }
        return clearedBy(op).prices[hour];
    }

    public int traded(int op, int hour) throws IllegalArgumentException, IllegalStateException {
        if (!isOperator(op) || !isHour(hour)) {
            throw new IllegalArgumentException("no such operator or hour");
        }
        return clearedBy(op).volumes[hour];
    }

    public int fill(int op, int p, int i) throws IllegalArgumentException, IllegalStateException {
        if (!isOperator(op) || !isMember(p) || i < 0 || i >= MOST_ENTRIES) {
            throw new IllegalArgumentException("no such operator, member or entry");
        }
        Outcome outcome = clearedBy(op);
        if (i >= books.counts[agreement.agreedBook(op, p)]) {
            throw new IllegalArgumentException("no such entry in the vector");
        }
        return outcome.filled[MOST_ENTRIES * p + i];
    }

    public long welfare(int op) throws IllegalArgumentException, IllegalStateException {
        if (!isOperator(op)) {
            throw new IllegalArgumentException("no such operator");
        }
        return clearedBy(op).worth;
    }

    public void meter(int p, int hour, int amount) throws IllegalArgumentException {
        if (!isMember(p) || !isHour(hour) || amount < -MOST_METERED || amount > MOST_METERED) {
            throw new IllegalArgumentException("no such member, hour or amount");
        }
        metered[HOURS * p + hour] = amount;
    }

    public long balance(int op, int p) throws IllegalArgumentException, IllegalStateException {
        if (!isOperator(op) || p != ALL && !isMember(p)) {
            throw new IllegalArgumentException("no such operator or member");
        }
        Outcome outcome = clearedBy(op);
        if (p != ALL) {
            return accountOf(outcome, op, p);
        }
        long fees = 0;
        for (int m = 0; m < members; m++) {
            fees -= accountOf(outcome, op, m);
        }
        return fees;
    }

    public void nextDay() {
        for (int p = 0; p < MOST_MEMBERS; p++) {
            hasSent[p] = false;
            isSealed[p] = false;
        }
        sealedCount = 0;
        for (int k = 0; k < metered.length; k++) {
            metered[k] = 0;
        }
        books.empty();
        agreement.forget();
        for (int k = 0; k < OPERATORS; k++) {
            outcomes[k].isDone = false;
        }
    }

    private boolean isMember(int p) {
        return p >= 0 && p < members;
    }

    /** -1 is the empty book, the others are numbers of books that members sent. */
    private boolean isItem(int item) {
        return item >= -1 && item < OPERATORS * members;
    }

    private static boolean isOperator(int op) {
        return op >= 0 && op < OPERATORS;
    }

    private static boolean isHour(int hour) {
        return hour >= 0 && hour < HOURS;
    }

    private static boolean isSpan(int hours) {
        return hours >= 0 && isHour(hours / SPAN) && isHour(hours % SPAN) && hours / SPAN <= hours % SPAN;
    }

    private static boolean isBid(int side, int quantity, int limit) {
        return (side == BUY || side == SELL)
                && quantity >= 1 && quantity <= MOST_QUANTITY
                && limit >= LEAST_PRICE && limit <= GREATEST_PRICE;
    }

    private int send(int p, int op, int when, int side, int quantity, int limit) {
        if (!isMember(p) || op != ALL && !isOperator(op) || !isBid(side, quantity, limit)) {
            throw new IllegalArgumentException("no such member, operator, side, quantity or limit");
        }
        if (isSealed[p]) {
            throw new IllegalStateException("the member is sealed");
        }
        // What every operator leaves out has been sent all the same.
        hasSent[p] = true;
        int taken = 0;
        for (int k = 0; k < OPERATORS; k++) {
            boolean isAddressed = op == ALL || op == k;
            if (isAddressed && books.take(OPERATORS * p + k, collaterals[p], when, side, quantity, limit)) {
                taken++;
            }
        }
        return taken;
    }

    /** Called with an operator that has been looked at already. */
    private Outcome clearedBy(int op) {
        if (!outcomes[op].isDone) {
            throw new IllegalStateException("the operator has not cleared");
        }
        return outcomes[op];
    }

    private long accountOf(Outcome outcome, int op, int p) {
        int book = agreement.agreedBook(op, p);
        long sum = 0;
        for (int h = 0; h < HOURS; h++) {
            long sold = soldLessBought(outcome, book, p, h);
            long more = metered[HOURS * p + h] - sold;
            long each = more > 0 ? outcome.prices[h] - FEE : outcome.prices[h] + FEE;
            sum += outcome.prices[h] * sold + each * more;
        }
        return sum;
    }

    private long soldLessBought(Outcome outcome, int book, int p, int hour) {
        long sum = 0;
        for (int i = 0; i < books.counts[book]; i++) {
            int entry = MOST_ENTRIES * book + i;
            if (books.covers(entry, hour)) {
                int amount = outcome.filled[MOST_ENTRIES * p + i];
                sum += books.sides[entry] == SELL ? amount : -amount;
            }
        }
        return sum;
    }

    /**
     * What each member sent to each operator. Book 4 * p + k is what member p sent to operator k,
     * so that the items of tell() are numbers of books; entry i of a book is at 10 * book + i.
     */
    private static final class Books {
        private final int[] counts;
        private final long[] needs;
        private final int[] whens;
        private final int[] sides;
        private final int[] quantities;
        private final int[] limits;

        Books() {
            counts = new int[EMPTY_BOOK + 1];
            needs = new long[EMPTY_BOOK + 1];
            whens = new int[EMPTY_BOOK * MOST_ENTRIES];
            sides = new int[EMPTY_BOOK * MOST_ENTRIES];
            quantities = new int[EMPTY_BOOK * MOST_ENTRIES];
            limits = new int[EMPTY_BOOK * MOST_ENTRIES];
        }

        void empty() {
            for (int k = 0; k < counts.length; k++) {
                counts[k] = 0;
                needs[k] = 0;
            }
        }

        /** Whether the entry was taken, not left out. */
        boolean take(int book, int most, int when, int side, int quantity, int limit) {
            long need = needs[book] + (long) quantity * costOfOne(side, limit) * lengthOf(when);
            if (counts[book] >= MOST_ENTRIES || need > most) {
                return false;
            }
            int entry = MOST_ENTRIES * book + counts[book];
            whens[entry] = when;
            sides[entry] = side;
            quantities[entry] = quantity;
            limits[entry] = limit;
            counts[book]++;
            needs[book] = need;
            return true;
        }

        boolean areEqual(int a, int b) {
            if (counts[a] != counts[b]) {
                return false;
            }
            for (int i = 0; i < counts[a]; i++) {
                if (!areEntriesEqual(MOST_ENTRIES * a + i, MOST_ENTRIES * b + i)) {
                    return false;
                }
            }
            return true;
        }

        int detail(int entry, int what) {
            switch (what) {
                case WHEN:
                    return whens[entry];
                case SIDE:
                    return sides[entry];
                case QUANTITY:
                    return quantities[entry];
                default:
                    return limits[entry];
            }
        }

        boolean isBlock(int entry) {
            return whens[entry] >= BLOCK_MARK;
        }

        boolean covers(int entry, int hour) {
            return firstHour(whens[entry]) <= hour && hour <= lastHour(whens[entry]);
        }

        int length(int entry) {
            return lengthOf(whens[entry]);
        }

        /** Quantity times limit times hours: what it is worth to a buyer, what it costs a seller. */
        long worthOf(int entry) {
            long worth = (long) quantities[entry] * limits[entry] * length(entry);
            return sides[entry] == BUY ? worth : -worth;
        }

        private boolean areEntriesEqual(int a, int b) {
            return whens[a] == whens[b] && sides[a] == sides[b]
                    && quantities[a] == quantities[b] && limits[a] == limits[b];
        }

        /** The most that one of the quantity can cost the member in an hour. */
        private static int costOfOne(int side, int limit) {
            int cost = side == BUY ? limit : -limit;
            return cost > 0 ? cost : 0;
        }

        private static int lengthOf(int when) {
            return lastHour(when) - firstHour(when) + 1;
        }

        private static int firstHour(int when) {
            return when >= BLOCK_MARK ? (when - BLOCK_MARK) / SPAN : when;
        }

        private static int lastHour(int when) {
            return when >= BLOCK_MARK ? (when - BLOCK_MARK) % SPAN : when;
        }
    }

    /** The rounds, the liar's lies, and the vectors that come of them: books by their numbers. */
    private static final class Agreement {
        private final Books books;
        private final int[] toldLies;
        private final int[] passedLies;
        private final int[] words;
        private final int[] vectors;
        private int liarOperator;
        private int rounds;

        Agreement(Books books) {
            this.books = books;
            toldLies = new int[OPERATORS * MOST_MEMBERS];
            passedLies = new int[OPERATORS * OPERATORS * MOST_MEMBERS];
            words = new int[OPERATORS];
            vectors = new int[OPERATORS * MOST_MEMBERS];
            forget();
        }

        void forget() {
            liarOperator = NOBODY;
            rounds = 0;
            for (int k = 0; k < toldLies.length; k++) {
                toldLies[k] = NO_BOOK;
            }
            for (int k = 0; k < passedLies.length; k++) {
                passedLies[k] = NO_BOOK;
            }
            for (int k = 0; k < vectors.length; k++) {
                vectors[k] = EMPTY_BOOK;
            }
        }

        boolean hasLiar() {
            return liarOperator != NOBODY;
        }

        boolean isOver() {
            return rounds >= LAST_ROUND;
        }

        /** Whether round 2 or 3 comes next. */
        boolean isTellingNext() {
            return rounds == 1 || rounds == 2;
        }

        boolean mayLie(int to, int about) {
            if (to == liarOperator) {
                return false;
            }
            return rounds == 1 ? about == liarOperator : about != liarOperator && about != to;
        }

        void setLie(int to, int about, int p, int book) {
            if (rounds == 1) {
                toldLies[toldPlace(to, p)] = book;
            } else {
                passedLies[passedPlace(to, about, p)] = book;
            }
        }

        /** The number of the round that is over now. */
        int goOn(int members) {
            rounds++;
            if (isOver()) {
                for (int o = 0; o < OPERATORS; o++) {
                    for (int p = 0; p < members; p++) {
                        vectors[vectorPlace(o, p)] = agreeOn(o, p);
                    }
                }
            }
            return rounds;
        }

        int agreedBook(int op, int p) {
            return vectors[vectorPlace(op, p)];
        }

        /** The book that at least three of an operator's four words are. */
        private int agreeOn(int o, int p) {
            for (int q = 0; q < OPERATORS; q++) {
                words[q] = q == o ? own(q, p) : word(o, q, p);
            }
            for (int a = 0; a < OPERATORS; a++) {
                if (wordsLike(words[a]) >= 3) {
                    return words[a];
                }
            }
            return EMPTY_BOOK;
        }

        private int wordsLike(int book) {
            int count = 0;
            for (int q = 0; q < OPERATORS; q++) {
                if (books.areEqual(words[q], book)) {
                    count++;
                }
            }
            return count;
        }

        /** The book that at least two of what q told o and what the other two passed on are. */
        private int word(int o, int q, int p) {
            int first = told(q, o, p);
            int earlier = NO_BOOK;
            for (int r = 0; r < OPERATORS; r++) {
                if (r != o && r != q) {
                    int next = passed(r, q, o, p);
                    if (books.areEqual(next, first)) {
                        return first;
                    }
                    if (earlier != NO_BOOK && books.areEqual(next, earlier)) {
                        return next;
                    }
                    earlier = next;
                }
            }
            return EMPTY_BOOK;
        }

        private static int own(int q, int p) {
            return OPERATORS * p + q;
        }

        private int told(int q, int o, int p) {
            int lie = q == liarOperator ? toldLies[toldPlace(o, p)] : NO_BOOK;
            return lie != NO_BOOK ? lie : own(q, p);
        }

        private int passed(int r, int q, int o, int p) {
            int lie = r == liarOperator ? passedLies[passedPlace(o, q, p)] : NO_BOOK;
            return lie != NO_BOOK ? lie : told(q, r, p);
        }

        private static int toldPlace(int to, int p) {
            return MOST_MEMBERS * to + p;
        }

        private static int passedPlace(int to, int about, int p) {
            return MOST_MEMBERS * (OPERATORS * to + about) + p;
        }

        private static int vectorPlace(int op, int p) {
            return MOST_MEMBERS * op + p;
        }
    }

    /** What one operator cleared. What entry i of member p gets is at 10 * p + i. */
    private static final class Outcome {
        private final int[] prices;
        private final int[] volumes;
        private final int[] filled;
        private long worth;
        private int takenSet;
        private boolean isDone;

        Outcome() {
            prices = new int[HOURS];
            volumes = new int[HOURS];
            filled = new int[MOST_SLOTS];
        }
    }

    /** The orders of one hour, their quantities summed up by limit, the limits rising. */
    private static final class Curve {
        private final int[] limits;
        private final int[] bids;
        private final int[] offers;
        private int count;
        private int allBids;
        private int allOffers;

        /** What meet() and measure() found last. */
        private int meetingPrice;
        private int sureBids;
        private int sureOffers;
        private int priceBids;
        private int priceOffers;
        private int volume;
        private long worth;

        Curve() {
            limits = new int[MOST_SLOTS];
            bids = new int[MOST_SLOTS];
            offers = new int[MOST_SLOTS];
        }

        void empty() {
            count = 0;
            allBids = 0;
            allOffers = 0;
        }

        void add(int side, int quantity, int limit) {
            int at = placeOf(limit);
            if (at >= limits.length) {
                return;
            }
            if (side == BUY) {
                bids[at] += quantity;
                allBids += quantity;
            } else {
                offers[at] += quantity;
                allOffers += quantity;
            }
        }

        /** The place of a limit, which is made if there is none yet and room for it. */
        private int placeOf(int limit) {
            int at = 0;
            while (at < count && limits[at] < limit) {
                at++;
            }
            if (at < count && limits[at] == limit || count >= limits.length) {
                return at;
            }
            for (int k = count; k > at; k--) {
                limits[k] = limits[k - 1];
                bids[k] = bids[k - 1];
                offers[k] = offers[k - 1];
            }
            limits[at] = limit;
            bids[at] = 0;
            offers[at] = 0;
            count++;
            return at;
        }

        /** Whether a price serves when blocks buy net more than they sell: the middle one is kept. */
        boolean meet(int net) {
            int least = leastServing(net);
            int greatest = greatestServing(net);
            if (least > greatest) {
                return false;
            }
            meetingPrice = Math.floorDiv(least + greatest, 2);
            return true;
        }

        /**
         * The least price at which the least that can be bought is not above the most that can be
         * sold. That changes at limits alone, and beyond the last one no price is left.
         */
        private int leastServing(int net) {
            int excess = net + allBids;
            if (excess <= 0) {
                return LEAST_PRICE;
            }
            for (int k = 0; k < count; k++) {
                excess -= bids[k] + offers[k];
                if (excess <= 0) {
                    return limits[k];
                }
            }
            return GREATEST_PRICE + 1;
        }

        /** Likewise, from above: the most that can be bought is not below the least sold. */
        private int greatestServing(int net) {
            int excess = net - allOffers;
            if (excess >= 0) {
                return GREATEST_PRICE;
            }
            for (int k = count - 1; k >= 0; k--) {
                excess += bids[k] + offers[k];
                if (excess >= 0) {
                    return limits[k];
                }
            }
            return LEAST_PRICE - 1;
        }

        /** What is traded at the price that meet() kept, and the welfare of the hour's orders. */
        void measure(int blockBids, int blockOffers) {
            sureBids = blockBids;
            sureOffers = blockOffers;
            priceBids = 0;
            priceOffers = 0;
            worth = 0;
            for (int k = 0; k < count; k++) {
                if (limits[k] > meetingPrice) {
                    sureBids += bids[k];
                    worth += (long) bids[k] * limits[k];
                } else if (limits[k] < meetingPrice) {
                    sureOffers += offers[k];
                    worth -= (long) offers[k] * limits[k];
                } else {
                    priceBids = bids[k];
                    priceOffers = offers[k];
                }
            }
            volume = Math.min(sureBids + priceBids, sureOffers + priceOffers);
            worth += (long) shared(BUY) * meetingPrice - (long) shared(SELL) * meetingPrice;
        }

        /** What the orders of a side at the price share. */
        int shared(int side) {
            return side == BUY ? volume - sureBids : volume - sureOffers;
        }

        int quantityAtPrice(int side) {
            return side == BUY ? priceBids : priceOffers;
        }
    }

    /** Clears one vector at a time: the entries in order, and the set of blocks that is tried. */
    private static final class Market {
        private final Books books;
        private final Curve[] curves;
        private final int[] entries;
        private final int[] slots;
        private final int[] remainders;
        private final int[] blocks;
        private final int[] blockBids;
        private final int[] blockOffers;
        private int entryCount;
        private int blockCount;

        Market(Books books) {
            this.books = books;
            curves = new Curve[HOURS];
            for (int h = 0; h < HOURS; h++) {
                curves[h] = new Curve();
            }
            entries = new int[MOST_SLOTS];
            slots = new int[MOST_SLOTS];
            remainders = new int[MOST_SLOTS];
            blocks = new int[MOST_BLOCKS];
            blockBids = new int[HOURS];
            blockOffers = new int[HOURS];
        }

        void load(Agreement agreement, int op, int members) {
            entryCount = 0;
            blockCount = 0;
            for (int h = 0; h < HOURS; h++) {
                curves[h].empty();
            }
            for (int p = 0; p < members; p++) {
                int book = agreement.agreedBook(op, p);
                for (int i = 0; i < books.counts[book]; i++) {
                    addEntry(MOST_ENTRIES * book + i, MOST_ENTRIES * p + i);
                }
            }
        }

        private void addEntry(int entry, int slot) {
            if (entryCount >= MOST_SLOTS) {
                return;
            }
            entries[entryCount] = entry;
            slots[entryCount] = slot;
            entryCount++;
            if (!books.isBlock(entry)) {
                curves[books.whens[entry]].add(books.sides[entry], books.quantities[entry], books.limits[entry]);
            } else if (blockCount < MOST_BLOCKS) {
                blocks[blockCount] = entry;
                blockCount++;
            }
        }

        void settleInto(Outcome outcome) {
            int set = bestSet();
            // The curves hold what was tried last: they are brought back to the best set.
            findPrices(set);
            outcome.worth = worthOfSet(set);
            outcome.takenSet = set;
            for (int h = 0; h < HOURS; h++) {
                outcome.prices[h] = curves[h].meetingPrice;
                outcome.volumes[h] = curves[h].volume;
            }
            giveWhole(outcome, set);
            for (int h = 0; h < HOURS; h++) {
                share(outcome, h, BUY);
                share(outcome, h, SELL);
            }
            outcome.isDone = true;
        }

        /** No blocks at all is always fit, so the search starts from it. */
        private int bestSet() {
            int best = 0;
            findPrices(best);
            long most = worthOfSet(best);
            for (int set = 1; set < 1 << blockCount; set++) {
                if (isFit(set)) {
                    long worth = worthOfSet(set);
                    if (worth > most) {
                        most = worth;
                        best = set;
                    }
                }
            }
            return best;
        }

        private boolean isFit(int set) {
            if (!findPrices(set)) {
                return false;
            }
            for (int k = 0; k < blockCount; k++) {
                if (isTaken(set, k) && loses(blocks[k])) {
                    return false;
                }
            }
            return true;
        }

        /** Whether each hour has a serving price: the curves keep them. */
        private boolean findPrices(int set) {
            sumBlocks(set);
            for (int h = 0; h < HOURS; h++) {
                if (!curves[h].meet(blockBids[h] - blockOffers[h])) {
                    return false;
                }
            }
            return true;
        }

        private void sumBlocks(int set) {
            for (int h = 0; h < HOURS; h++) {
                blockBids[h] = 0;
                blockOffers[h] = 0;
                for (int k = 0; k < blockCount; k++) {
                    if (isTaken(set, k) && books.covers(blocks[k], h)) {
                        addBlock(h, blocks[k]);
                    }
                }
            }
        }

        private void addBlock(int hour, int entry) {
            if (books.sides[entry] == BUY) {
                blockBids[hour] += books.quantities[entry];
            } else {
                blockOffers[hour] += books.quantities[entry];
            }
        }

        private static boolean isTaken(int set, int k) {
            return (set >> k & 1) == 1;
        }

        private boolean loses(int entry) {
            int gain = -books.limits[entry] * books.length(entry);
            for (int h = 0; h < HOURS; h++) {
                if (books.covers(entry, h)) {
                    gain += curves[h].meetingPrice;
                }
            }
            return books.sides[entry] == SELL ? gain < 0 : gain > 0;
        }

        private long worthOfSet(int set) {
            long sum = 0;
            for (int h = 0; h < HOURS; h++) {
                curves[h].measure(blockBids[h], blockOffers[h]);
                sum += curves[h].worth;
            }
            for (int k = 0; k < blockCount; k++) {
                if (isTaken(set, k)) {
                    sum += books.worthOf(blocks[k]);
                }
            }
            return sum;
        }

        /** Fills what is sure and the taken blocks; orders at the price get their share later. */
        private void giveWhole(Outcome outcome, int set) {
            int k = 0;
            for (int j = 0; j < entryCount; j++) {
                boolean isWhole;
                if (books.isBlock(entries[j])) {
                    isWhole = k < blockCount && isTaken(set, k);
                    k++;
                } else {
                    isWhole = isSure(entries[j]);
                }
                outcome.filled[slots[j]] = isWhole ? books.quantities[entries[j]] : 0;
            }
        }

        private boolean isSure(int entry) {
            int above = books.limits[entry] - curves[books.whens[entry]].meetingPrice;
            return books.sides[entry] == BUY ? above > 0 : above < 0;
        }

        private void share(Outcome outcome, int hour, int side) {
            int shared = curves[hour].shared(side);
            int all = curves[hour].quantityAtPrice(side);
            if (all <= 0) {
                return;
            }
            int left = shared;
            for (int j = 0; j < entryCount; j++) {
                remainders[j] = -1;
                if (isSharing(entries[j], hour, side)) {
                    int part = books.quantities[entries[j]] * shared;
                    outcome.filled[slots[j]] = part / all;
                    remainders[j] = part % all;
                    left -= part / all;
                }
            }
            // Less is left than orders share, so each gets one more at the most.
            for (int k = 0; k < left && k < entryCount; k++) {
                int j = greatestRemainder();
                outcome.filled[slots[j]]++;
                remainders[j] = -1;
            }
        }

        private boolean isSharing(int entry, int hour, int side) {
            return !books.isBlock(entry) && books.whens[entry] == hour && books.sides[entry] == side
                    && books.limits[entry] == curves[hour].meetingPrice;
        }

        /** The place of the greatest remainder, of the same ones the earliest. */
        private int greatestRemainder() {
            int best = 0;
            for (int j = 1; j < entryCount; j++) {
                if (remainders[j] > remainders[best]) {
                    best = j;
                }
            }
            return best;
        }
    }
}
