import java.util.ArrayList;
import java.util.Arrays;
import java.util.HashMap;
import java.util.List;
import java.util.Map;
import java.util.Random;

/**
 * Random runs of calls, each answer compared with that of a model that follows the document's terms
 * word by word: every price is tried, every book told and passed is written down.
 */
public final class ModelTest {
    private static final int RUNS = 800;
    private static final int MOST_CALLS = 512;

    private interface Auction {
        long call(Face name, int[] a);
    }

    private static final class Program implements Auction {
        private final AuctionHour x;

        Program(int n) {
            x = new AuctionHour(n);
        }

        @Override
        public long call(Face name, int[] a) {
            return name.call(x, a);
        }
    }

    private static final class Entry {
        final boolean isBlock;
        final int from;
        final int to;
        final int side;
        final int quantity;
        final int limit;

        Entry(boolean isBlock, int from, int to, int side, int quantity, int limit) {
            this.isBlock = isBlock;
            this.from = from;
            this.to = to;
            this.side = side;
            this.quantity = quantity;
            this.limit = limit;
        }

        int hours() {
            return to - from + 1;
        }

        long need() {
            long each = side == 0 && limit > 0 ? limit : side == 1 && limit < 0 ? -limit : 0;
            return each * quantity * hours();
        }

        long worth(long filled) {
            return (side == 0 ? 1 : -1) * filled * limit * hours();
        }

        List<Integer> all() {
            return List.of(isBlock ? 1 : 0, from, to, side, quantity, limit);
        }
    }

    private static boolean equal(List<Entry> a, List<Entry> b) {
        if (a.size() != b.size()) {
            return false;
        }
        for (int i = 0; i < a.size(); i++) {
            if (!a.get(i).all().equals(b.get(i).all())) {
                return false;
            }
        }
        return true;
    }

    /** The first of the books that as many of them are, else the empty one. */
    private static List<Entry> atLeast(int many, List<List<Entry>> books) {
        for (List<Entry> book : books) {
            if (books.stream().filter(b -> equal(b, book)).count() >= many) {
                return book;
            }
        }
        return List.of();
    }

    /** What an operator cleared for a set of taken blocks. */
    private static final class Cleared {
        int set;
        final int[] price = new int[3];
        final int[] traded = new int[3];
        final Map<Entry, Integer> filled = new HashMap<>();
        long welfare;
    }

    private static final class Model implements Auction {
        final int n;
        final int[] collateral = new int[6];
        final Map<Integer, List<Entry>> own = new HashMap<>();
        final boolean[] sent = new boolean[6];
        final boolean[] sealed = new boolean[6];
        int liar = -1;
        int rounds = 0;
        final Map<List<Integer>, List<Entry>> lies = new HashMap<>();
        final Map<List<Integer>, List<Entry>> told = new HashMap<>();
        final Map<List<Integer>, List<Entry>> passed = new HashMap<>();
        final Map<List<Integer>, List<Entry>> vector = new HashMap<>();
        final Cleared[] cleared = new Cleared[4];
        final int[][] meters = new int[6][3];

        Model(int n) {
            this.n = n >= 1 && n <= 6 ? n : 1;
        }

        static void argument(boolean good) {
            if (!good) {
                throw new IllegalArgumentException();
            }
        }

        static void state(boolean good) {
            if (!good) {
                throw new IllegalStateException();
            }
        }

        static boolean in(long least, long value, long greatest) {
            return least <= value && value <= greatest;
        }

        boolean member(int p) {
            return in(0, p, n - 1);
        }

        List<Entry> own(int q, int p) {
            return own.computeIfAbsent(4 * p + q, k -> new ArrayList<>());
        }

        @Override
        public long call(Face name, int[] a) {
            switch (name) {
                case COLLATERAL:
                    argument(member(a[0]) && in(0, a[1], 1_000_000_000));
                    state(!sent[a[0]] && !sealed[a[0]]);
                    collateral[a[0]] = a[1];
                    return 0;
                case ORDER:
                    argument(in(0, a[2], 2));
                    return send(a, new Entry(false, a[2], a[2], a[3], a[4], a[5]));
                case BLOCK:
                    argument(in(0, a[2], 11) && a[2] % 4 < 3 && a[2] / 4 <= a[2] % 4);
                    return send(a, new Entry(true, a[2] / 4, a[2] % 4, a[3], a[4], a[5]));
                case SEAL:
                    argument(member(a[0]));
                    state(!sealed[a[0]]);
                    sealed[a[0]] = true;
                    return sealedCount();
                case LIAR:
                    argument(in(0, a[0], 3));
                    state(liar < 0 && rounds == 0);
                    liar = a[0];
                    return 0;
                case TELL:
                    tell(a[0], a[1], a[2], a[3]);
                    return 0;
                case ROUND:
                    return round();
                case VECTOR:
                    return vector(a[0], a[1], a[2], a[3]);
                case CLEAR:
                    argument(in(0, a[0], 3));
                    state(rounds == 3);
                    cleared[a[0]] = clear(a[0]);
                    return cleared[a[0]].set;
                case PRICE:
                    argument(in(0, a[0], 3) && in(0, a[1], 2));
                    state(cleared[a[0]] != null);
                    return cleared[a[0]].price[a[1]];
                case TRADED:
                    argument(in(0, a[0], 3) && in(0, a[1], 2));
                    state(cleared[a[0]] != null);
                    return cleared[a[0]].traded[a[1]];
                case FILL:
                    argument(in(0, a[0], 3) && member(a[1]) && in(0, a[2], 9));
                    state(cleared[a[0]] != null);
                    argument(a[2] < vector.get(List.of(a[0], a[1])).size());
                    return cleared[a[0]].filled.get(vector.get(List.of(a[0], a[1])).get(a[2]));
                case WELFARE:
                    argument(in(0, a[0], 3));
                    state(cleared[a[0]] != null);
                    return cleared[a[0]].welfare;
                case METER:
                    argument(member(a[0]) && in(0, a[1], 2) && in(-1_000_000, a[2], 1_000_000));
                    meters[a[0]][a[1]] = a[2];
                    return 0;
                case BALANCE:
                    argument(in(0, a[0], 3) && (a[1] == -1 || member(a[1])));
                    state(cleared[a[0]] != null);
                    return a[1] == -1 ? fees(a[0]) : balance(a[0], a[1]);
                default:
                    nextDay();
                    return 0;
            }
        }

        private int sealedCount() {
            int count = 0;
            for (boolean one : sealed) {
                count += one ? 1 : 0;
            }
            return count;
        }

        private long send(int[] a, Entry entry) {
            argument(member(a[0]) && in(-1, a[1], 3) && in(0, a[3], 1) && in(1, a[4], 1000) && in(-5000, a[5], 40000));
            state(!sealed[a[0]]);
            sent[a[0]] = true;
            int taken = 0;
            for (int q = 0; q < 4; q++) {
                List<Entry> book = own(q, a[0]);
                long need = entry.need() + book.stream().mapToLong(Entry::need).sum();
                if ((a[1] == -1 || a[1] == q) && book.size() < 10 && need <= collateral[a[0]]) {
                    book.add(entry);
                    taken++;
                }
            }
            return taken;
        }

        private void tell(int to, int about, int p, int item) {
            argument(in(0, to, 3) && in(0, about, 3) && member(p) && in(-1, item, 4 * n - 1));
            state(liar >= 0 && (rounds == 1 || rounds == 2));
            argument(to != liar && (rounds == 1 ? about == liar : about != liar && about != to));
            lies.put(List.of(to, about, p), item == -1 ? List.of() : own(item % 4, item / 4));
        }

        private long round() {
            state(sealedCount() == n && rounds < 3);
            rounds++;
            for (int p = 0; p < n; p++) {
                if (rounds == 2) {
                    tellAll(p);
                } else if (rounds == 3) {
                    passAll(p);
                    agree(p);
                }
            }
            if (rounds >= 2) {
                lies.clear();
            }
            return rounds;
        }

        private void tellAll(int p) {
            for (int q = 0; q < 4; q++) {
                for (int o = 0; o < 4; o++) {
                    if (o != q) {
                        List<Entry> lie = q == liar ? lies.get(List.of(o, q, p)) : null;
                        told.put(List.of(q, o, p), lie != null ? lie : own(q, p));
                    }
                }
            }
        }

        private void passAll(int p) {
            for (int r = 0; r < 4; r++) {
                for (int q = 0; q < 4; q++) {
                    for (int o = 0; o < 4; o++) {
                        if (r != q && r != o && q != o) {
                            List<Entry> lie = r == liar ? lies.get(List.of(o, q, p)) : null;
                            passed.put(List.of(r, q, o, p), lie != null ? lie : told.get(List.of(q, r, p)));
                        }
                    }
                }
            }
        }

        private void agree(int p) {
            for (int o = 0; o < 4; o++) {
                List<List<Entry>> words = new ArrayList<>();
                for (int q = 0; q < 4; q++) {
                    if (q == o) {
                        words.add(own(o, p));
                        continue;
                    }
                    List<List<Entry>> said = new ArrayList<>();
                    said.add(told.get(List.of(q, o, p)));
                    for (int r = 0; r < 4; r++) {
                        if (r != o && r != q) {
                            said.add(passed.get(List.of(r, q, o, p)));
                        }
                    }
                    words.add(atLeast(2, said));
                }
                // Copies of the entries, so that each of the vector is one of its own.
                List<Entry> book = new ArrayList<>();
                for (Entry e : atLeast(3, words)) {
                    book.add(new Entry(e.isBlock, e.from, e.to, e.side, e.quantity, e.limit));
                }
                vector.put(List.of(o, p), book);
            }
        }

        private long vector(int op, int p, int i, int what) {
            state(rounds == 3);
            argument(in(0, op, 3) && member(p) && in(0, what, 4));
            List<Entry> book = vector.get(List.of(op, p));
            if (what == 4) {
                return book.size();
            }
            argument(in(0, i, book.size() - 1));
            Entry e = book.get(i);
            int when = e.isBlock ? 4 * e.from + e.to + 100 : e.from;
            return what == 0 ? when : what == 1 ? e.side : what == 2 ? e.quantity : e.limit;
        }

        private Cleared clear(int op) {
            List<Entry> orders = new ArrayList<>();
            List<Entry> blocks = new ArrayList<>();
            List<Entry> late = new ArrayList<>();
            for (int p = 0; p < n; p++) {
                for (Entry e : vector.get(List.of(op, p))) {
                    (!e.isBlock ? orders : blocks.size() < 8 ? blocks : late).add(e);
                }
            }
            Hour[] hours = {new Hour(orders, 0), new Hour(orders, 1), new Hour(orders, 2)};
            Cleared best = null;
            for (int set = 0; set < 1 << blocks.size(); set++) {
                Cleared one = tried(set, hours, orders, blocks);
                if (one != null && (best == null || one.welfare > best.welfare)) {
                    best = one;
                }
            }
            for (Entry e : late) {
                best.filled.put(e, 0);
            }
            return best;
        }

        /** Nothing where the set is not fit. */
        private Cleared tried(int set, Hour[] hours, List<Entry> orders, List<Entry> blocks) {
            Cleared c = new Cleared();
            c.set = set;
            int[] bought = new int[3];
            int[] sold = new int[3];
            for (int k = 0; k < blocks.size(); k++) {
                Entry b = blocks.get(k);
                boolean taken = (set >> k) % 2 == 1;
                c.filled.put(b, taken ? b.quantity : 0);
                for (int h = b.from; taken && h <= b.to; h++) {
                    bought[h] += b.side == 0 ? b.quantity : 0;
                    sold[h] += b.side == 1 ? b.quantity : 0;
                }
            }
            for (int h = 0; h < 3; h++) {
                Integer price = hours[h].price(bought[h], sold[h]);
                if (price == null) {
                    return null;
                }
                c.price[h] = price;
            }
            for (int k = 0; k < blocks.size(); k++) {
                Entry b = blocks.get(k);
                long sum = 0;
                for (int h = b.from; h <= b.to; h++) {
                    sum += c.price[h] - b.limit;
                }
                if ((set >> k) % 2 == 1 && (b.side == 1 ? sum < 0 : sum > 0)) {
                    return null;
                }
            }
            for (int h = 0; h < 3; h++) {
                c.traded[h] = hours[h].fill(c.filled, c.price[h], bought[h], sold[h]);
            }
            c.filled.forEach((e, filled) -> c.welfare += e.worth(filled));
            return c;
        }

        private long balance(int op, int p) {
            Cleared c = cleared[op];
            long sum = 0;
            for (int h = 0; h < 3; h++) {
                long net = 0;
                for (Entry e : vector.get(List.of(op, p))) {
                    if (e.from <= h && h <= e.to) {
                        net += (e.side == 1 ? 1 : -1) * c.filled.get(e);
                    }
                }
                long off = meters[p][h] - net;
                sum += net * c.price[h];
                if (off > 0) {
                    sum += off * (c.price[h] - 50);
                } else {
                    sum -= -off * (c.price[h] + 50);
                }
            }
            return sum;
        }

        private long fees(int op) {
            long sum = 0;
            for (int p = 0; p < n; p++) {
                sum += balance(op, p);
            }
            return -sum;
        }

        private void nextDay() {
            own.clear();
            Arrays.fill(sent, false);
            Arrays.fill(sealed, false);
            liar = -1;
            rounds = 0;
            lies.clear();
            told.clear();
            passed.clear();
            vector.clear();
            Arrays.fill(cleared, null);
            for (int[] row : meters) {
                Arrays.fill(row, 0);
            }
        }
    }

    /** The orders of an hour, with what each price makes of them. */
    private static final class Hour {
        private static final int LEAST = -5000;
        private static final int PRICES = 45001;
        final List<Entry> orders = new ArrayList<>();
        final int[] sureBuy = new int[PRICES];
        final int[] maySell = new int[PRICES];
        final int[] mayBuy = new int[PRICES];
        final int[] sureSell = new int[PRICES];

        Hour(List<Entry> all, int hour) {
            for (Entry e : all) {
                if (e.from != hour) {
                    continue;
                }
                orders.add(e);
                for (int k = 0; k < PRICES; k++) {
                    int x = k + LEAST;
                    if (e.side == 0) {
                        sureBuy[k] += e.limit > x ? e.quantity : 0;
                        mayBuy[k] += e.limit >= x ? e.quantity : 0;
                    } else {
                        sureSell[k] += e.limit < x ? e.quantity : 0;
                        maySell[k] += e.limit <= x ? e.quantity : 0;
                    }
                }
            }
        }

        boolean serves(int k, int bought, int sold) {
            return sureBuy[k] + bought <= maySell[k] + sold && sureSell[k] + sold <= mayBuy[k] + bought;
        }

        Integer price(int bought, int sold) {
            int least = 0;
            while (least < PRICES && !serves(least, bought, sold)) {
                least++;
            }
            if (least == PRICES) {
                return null;
            }
            int greatest = PRICES - 1;
            while (!serves(greatest, bought, sold)) {
                greatest--;
            }
            return (int) Math.floor((least + greatest + 2 * LEAST) / 2.0);
        }

        int fill(Map<Entry, Integer> filled, int price, int bought, int sold) {
            int k = price - LEAST;
            int traded = Math.min(mayBuy[k] + bought, maySell[k] + sold);
            fillSide(filled, price, 0, traded - sureBuy[k] - bought);
            fillSide(filled, price, 1, traded - sureSell[k] - sold);
            return traded;
        }

        private void fillSide(Map<Entry, Integer> filled, int price, int side, long beyond) {
            List<Entry> sharing = new ArrayList<>();
            for (Entry e : orders) {
                if (e.side == side) {
                    boolean sure = side == 0 ? e.limit > price : e.limit < price;
                    filled.put(e, sure ? e.quantity : 0);
                    if (e.limit == price) {
                        sharing.add(e);
                    }
                }
            }
            long all = sharing.stream().mapToLong(e -> e.quantity).sum();
            long left = beyond;
            for (Entry e : sharing) {
                filled.put(e, (int) (e.quantity * beyond / all));
                left -= e.quantity * beyond / all;
            }
            // The sort keeps the order of equal ones.
            sharing.sort((a, b) -> Long.compare(b.quantity * beyond % all, a.quantity * beyond % all));
            for (int j = 0; j < left; j++) {
                filled.merge(sharing.get(j), 1, Integer::sum);
            }
        }
    }

    private static String answerOf(Auction auction, Face name, int[] a) {
        try {
            return Long.toString(auction.call(name, a));
        } catch (RuntimeException e) {
            return "throws." + e.getClass().getSimpleName();
        }
    }

    /** One run: the same calls to the program and to the model. */
    private static final class Run {
        private static final int[] SPANS = {0, 1, 2, 5, 6, 10};
        final Random random;
        final int n;
        final Auction program;
        final Auction model;
        final int[] limits;
        final int mostQuantity;
        final StringBuilder said = new StringBuilder();
        int calls = 0;
        int taken = 0;
        boolean isFull = false;
        boolean isWrong = false;

        Run(int seed) {
            random = new Random(seed);
            n = random.nextInt(8);
            program = new Program(n);
            model = new Model(n);
            limits = new int[1 + random.nextInt(12)];
            boolean isWide = random.nextInt(4) == 0;
            for (int k = 0; k < limits.length; k++) {
                limits[k] = isWide ? random.nextInt(45001) - 5000 : random.nextInt(41) - 12;
            }
            if (random.nextInt(3) == 0) {
                limits[0] = random.nextBoolean() ? -5000 : 40000;
            }
            mostQuantity = random.nextInt(3) == 0 ? 1000 : 1 + random.nextInt(20);
        }

        boolean call(Face name, int... a) {
            if (isWrong || calls >= MOST_CALLS) {
                return false;
            }
            calls++;
            String got = answerOf(program, name, a);
            String want = answerOf(model, name, a);
            said.append(name).append(Arrays.toString(a)).append(' ').append(want).append('\n');
            if (name == Face.CLEAR && !want.startsWith("throws") && !want.equals("0")) {
                taken++;
            }
            if (!got.equals(want)) {
                isWrong = true;
                System.out.println(said + "the program answered " + got);
            }
            return true;
        }

        int below(int bound) {
            return random.nextInt(bound);
        }

        int members() {
            return n >= 1 && n <= 6 ? n : 1;
        }

        int limit() {
            return limits[below(limits.length)];
        }

        /** A call of any name with arguments of any kind, most of them near what is allowed. */
        void anyCall() {
            Face name = Face.values()[below(Face.values().length - 1)];
            int[] a = new int[name.arguments];
            for (int k = 0; k < a.length; k++) {
                a[k] = below(30) == 0 ? random.nextInt() : below(7) - 1;
            }
            call(name, a);
        }

        void send(boolean blocksMostly) {
            int p = below(members());
            int op = !isFull && below(6) == 0 ? below(4) : -1;
            int quantity = 1 + below(mostQuantity);
            if (blocksMostly ? below(3) > 0 : below(4) == 0) {
                call(Face.BLOCK, p, op, SPANS[below(6)], below(2), quantity, limit());
            } else {
                call(Face.ORDER, p, op, below(3), below(2), quantity, limit());
            }
        }

        void day() {
            // On some days every book is full, and the same at all operators.
            isFull = below(6) == 0;
            for (int p = 0; p < members(); p++) {
                if (below(5) > 0) {
                    call(Face.COLLATERAL, p, !isFull && below(3) == 0 ? below(20000) : 1_000_000_000);
                }
            }
            boolean blocksMostly = below(4) == 0;
            int sends = isFull ? 16 * members() : below(12 * members());
            for (int k = 0; k < sends; k++) {
                send(blocksMostly);
                if (below(40) == 0) {
                    anyCall();
                }
            }
            boolean hasLiar = below(3) > 0;
            if (hasLiar) {
                call(Face.LIAR, below(4));
            }
            for (int p = 0; p < members(); p++) {
                call(Face.SEAL, p);
            }
            for (int r = 0; r < 3; r++) {
                call(Face.ROUND);
                int tells = hasLiar ? below(14) : 0;
                for (int k = 0; k < tells; k++) {
                    call(Face.TELL, below(4), below(4), below(members()), below(4 * members() + 1) - 1);
                }
            }
            lookAtAll();
            call(Face.NEXT_DAY);
        }

        void lookAtAll() {
            for (int op = 0; op < 4; op++) {
                for (int p = 0; p < members(); p++) {
                    call(Face.VECTOR, op, p, 0, 4);
                    call(Face.VECTOR, op, p, below(5), below(4));
                }
            }
            int first = below(4);
            for (int k = 0; k < 1 + below(4); k++) {
                lookAtCleared((first + k) % 4);
            }
        }

        void lookAtCleared(int op) {
            call(Face.CLEAR, op);
            call(Face.WELFARE, op);
            for (int h = 0; h < 3; h++) {
                call(Face.PRICE, op, h);
                call(Face.TRADED, op, h);
                call(Face.METER, below(members()), h, below(2 * mostQuantity + 1) - mostQuantity);
            }
            for (int p = 0; p < members(); p++) {
                for (int i = 0; i < 10; i++) {
                    call(Face.FILL, op, p, i);
                }
            }
            for (int p = -1; p < members(); p++) {
                call(Face.BALANCE, op, p);
            }
            if (below(3) == 0) {
                anyCall();
            }
        }
    }

    public static void main(String[] args) {
        int calls = 0;
        int taken = 0;
        int wrong = 0;
        for (int seed = 0; seed < RUNS && wrong == 0; seed++) {
            Run run = new Run(seed);
            for (int k = 0; k < 20; k++) {
                run.anyCall();
            }
            while (run.calls < MOST_CALLS && !run.isWrong) {
                run.day();
            }
            calls += run.calls;
            taken += run.taken;
            wrong += run.isWrong ? 1 : 0;
        }
        System.out.println(calls + " calls compared, " + taken + " clearings with blocks, " + wrong + " runs wrong");
        if (wrong != 0 || taken == 0) {
            System.exit(1);
        }
    }
}
