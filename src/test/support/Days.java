/** Ways to the states of a day that many tests start from. */
final class Days {
    static final int MOST_COLLATERAL = 1_000_000_000;

    private Days() {
    }

    /** A new object whose members have all the collateral there can be. */
    static AuctionHour rich(int n) {
        AuctionHour x = new AuctionHour(n);
        for (int p = 0; p < n; p++) {
            x.collateral(p, MOST_COLLATERAL);
        }
        return x;
    }

    static void sealAll(AuctionHour x, int n) {
        for (int p = 0; p < n; p++) {
            x.seal(p);
        }
    }

    static void rounds(AuctionHour x, int many) {
        for (int k = 0; k < many; k++) {
            x.round();
        }
    }

    /** Seals all members and goes through the three rounds. */
    static void agree(AuctionHour x, int n) {
        sealAll(x, n);
        rounds(x, 3);
    }

    /** Likewise, and all operators clear. */
    static void clearAll(AuctionHour x, int n) {
        agree(x, n);
        for (int op = 0; op < 4; op++) {
            x.clear(op);
        }
    }

    /** The honest operators, in order. */
    static int[] honest(int liar) {
        int[] row = new int[3];
        int count = 0;
        for (int op = 0; op < 4; op++) {
            if (op != liar) {
                row[count] = op;
                count++;
            }
        }
        return row;
    }

    /** How many entries each of the four operators agreed on for a member, as one text. */
    static String entries(AuctionHour x, int p) {
        StringBuilder text = new StringBuilder();
        for (int op = 0; op < 4; op++) {
            text.append(op == 0 ? "" : " ").append(x.vector(op, p, 0, 4));
        }
        return text.toString();
    }
}
