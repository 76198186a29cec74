import java.util.ArrayList;
import java.util.Arrays;
import java.util.List;

/**
 * A refused call changes nothing that later calls show: at each place of a run every call that is
 * refused there is made, and the rest of the run answers what it answers without them. The tests of
 * the boundaries tell which calls are refused with what.
 */
public final class RefusalTest {
    private static final int MEMBERS = 2;
    private static final int MOST_CALLS = 512;
    private static final int ALL = -1;

    private static final class Call {
        final Face face;
        final int[] arguments;

        Call(Face face, int... arguments) {
            this.face = face;
            this.arguments = arguments;
        }

        String answer(AuctionHour x) {
            try {
                return Long.toString(face.call(x, arguments));
            } catch (IllegalArgumentException | IllegalStateException e) {
                return e.getClass().getSimpleName();
            }
        }

        boolean isRefused(AuctionHour x) {
            return answer(x).endsWith("Exception");
        }

        @Override
        public String toString() {
            return face + Arrays.toString(arguments);
        }
    }

    private static final List<Call> RUN = new ArrayList<>();
    private static final List<Call> TRIED = new ArrayList<>();

    public static void main(String[] args) {
        sending();
        rounds();
        int end = RUN.size();
        looks();
        anotherDay();
        tried();
        refusedAtEachPlace(end);
        Sentence.end();
    }

    private static void run(Face face, int... arguments) {
        RUN.add(new Call(face, arguments));
    }

    private static void sending() {
        run(Face.COLLATERAL, 0, 1000);
        run(Face.COLLATERAL, 1, 200);
        // Operators 0 and 1 have one book of member 0, operator 2 another, the liar a third.
        for (int op = 0; op < 4; op++) {
            run(Face.ORDER, 0, op, 0, 0, op < 2 ? 10 : 10 + op, 50);
        }
        run(Face.ORDER, 0, ALL, 1, 0, 10, 25);
        run(Face.ORDER, 1, ALL, 0, 1, 10, 45);
        run(Face.BLOCK, 1, ALL, 0, 1, 5, 40);
        run(Face.BLOCK, 1, ALL, 0, 1, 5, 41);
        run(Face.ORDER, 1, ALL, 1, 1, 8, -20);
        run(Face.ORDER, 1, ALL, 2, 0, 1, 50);
        run(Face.METER, 0, 0, -3);
        run(Face.SEAL, 0);
        run(Face.METER, 1, 1, 4);
        run(Face.SEAL, 1);
    }

    private static void rounds() {
        run(Face.LIAR, 3);
        run(Face.ROUND);
        run(Face.TELL, 0, 3, 0, 0);
        run(Face.TELL, 1, 3, 0, 1);
        run(Face.ROUND);
        run(Face.TELL, 0, 1, 0, -1);
        run(Face.ROUND);
        run(Face.CLEAR, 0);
        run(Face.CLEAR, 3);
    }

    private static void looks() {
        for (int op = 0; op < 4; op++) {
            for (int p = 0; p < MEMBERS; p++) {
                run(Face.VECTOR, op, p, 0, 4);
                run(Face.VECTOR, op, p, 0, 2);
            }
            run(Face.PRICE, op, 0);
            run(Face.CLEAR, op);
            run(Face.WELFARE, op);
            for (int h = 0; h < 3; h++) {
                run(Face.PRICE, op, h);
                run(Face.TRADED, op, h);
            }
            for (int p = 0; p < MEMBERS; p++) {
                for (int i = 0; i < 5; i++) {
                    run(Face.FILL, op, p, i);
                }
            }
            for (int p = -1; p < MEMBERS; p++) {
                run(Face.BALANCE, op, p);
            }
        }
    }

    /** The collaterals are just enough still, and books, places and seals are counted from 0. */
    private static void anotherDay() {
        run(Face.NEXT_DAY);
        run(Face.ORDER, 0, ALL, 0, 0, 1, 1001);
        run(Face.ORDER, 0, ALL, 0, 0, 1, 1000);
        run(Face.ORDER, 1, ALL, 0, 0, 1, 201);
        run(Face.ORDER, 1, ALL, 0, 0, 1, 200);
        run(Face.SEAL, 0);
        run(Face.SEAL, 1);
        run(Face.ROUND);
    }

    /** Calls with arguments that are all good, and with each of them too small and too large. */
    private static void tried() {
        int[] member = {-1, MEMBERS};
        int[] operator = {-1, 4};
        int[] hour = {-1, 3};
        int[] side = {-1, 2};
        int[] quantity = {0, 1001};
        int[] limit = {-5001, 40_001};
        int[] receiver = {-2, 4};
        for (int p = 0; p < MEMBERS; p++) {
            tryCalls(Face.COLLATERAL, row(p, 77), member, row(-1, 1_000_000_001));
            tryCalls(Face.ORDER, row(p, ALL, 0, 0, 3, -7), member, receiver, hour, side, quantity, limit);
            tryCalls(Face.ORDER, row(p, 2, 2, 1, 3, 7), member, receiver, hour, side, quantity, limit);
            tryCalls(Face.BLOCK, row(p, ALL, 2, 1, 3, 7), member, receiver, row(4, 11), side, quantity, limit);
            tryCalls(Face.SEAL, row(p), member);
            tryCalls(Face.METER, row(p, p, 100), member, hour, row(-1_000_001, 1_000_001));
            tryCalls(Face.VECTOR, row(0, p, 0, 0), operator, member, row(-1, 10), row(-1, 5));
            tryCalls(Face.FILL, row(p, p, 0), operator, member, row(-1, 10));
            tryCalls(Face.BALANCE, row(p, p), operator, row(-2, MEMBERS));
        }
        tryCalls(Face.LIAR, row(0), operator);
        tryCalls(Face.LIAR, row(3), operator);
        tryCalls(Face.ROUND, row());
        for (int pair = 0; pair < 16; pair++) {
            TRIED.add(new Call(Face.TELL, pair / 4, pair % 4, 0, 2));
        }
        tryCalls(Face.TELL, row(0, 3, 0, -1), operator, operator, member, row(-2, 4 * MEMBERS));
        tryCalls(Face.TELL, row(1, 2, 1, -1), operator, operator, member, row(-2, 4 * MEMBERS));
        for (int op = 0; op < 4; op += 2) {
            tryCalls(Face.CLEAR, row(op), operator);
            tryCalls(Face.PRICE, row(op, 0), operator, hour);
            tryCalls(Face.TRADED, row(op, 2), operator, hour);
            tryCalls(Face.WELFARE, row(op), operator);
        }
    }

    private static int[] row(int... values) {
        return values;
    }

    private static void tryCalls(Face face, int[] good, int[]... bad) {
        TRIED.add(new Call(face, good));
        for (int k = 0; k < bad.length; k++) {
            for (int value : bad[k]) {
                int[] arguments = good.clone();
                arguments[k] = value;
                TRIED.add(new Call(face, arguments));
            }
        }
    }

    private static AuctionHour upTo(int place) {
        AuctionHour x = new AuctionHour(MEMBERS);
        for (int k = 0; k < place; k++) {
            RUN.get(k).answer(x);
        }
        return x;
    }

    private static String from(int place, AuctionHour x) {
        StringBuilder text = new StringBuilder();
        for (int k = place; k < RUN.size(); k++) {
            text.append(RUN.get(k)).append(' ').append(RUN.get(k).answer(x)).append('\n');
        }
        return text.toString();
    }

    private static void refusedAtEachPlace(int end) {
        Sentence s = new Sentence("P2 to P16: a refused call changes nothing that later calls show");
        for (int place = 0; place <= end; place++) {
            List<Call> refused = new ArrayList<>();
            for (Call call : TRIED) {
                if (call.isRefused(upTo(place))) {
                    refused.add(call);
                }
            }
            String due = from(place, upTo(place));
            int most = MOST_CALLS - RUN.size();
            for (int first = 0; first < refused.size(); first += most) {
                AuctionHour x = upTo(place);
                List<Call> some = refused.subList(first, Math.min(first + most, refused.size()));
                for (Call call : some) {
                    s.same(call + (call.isRefused(x) ? " refused" : " taken"), call + " refused");
                }
                s.same(from(place, x), due);
            }
        }
    }
}
