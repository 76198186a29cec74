/** The calls of the face by name, so that a test can hold them in rows and try them in any order. */
enum Face {
    COLLATERAL(2), ORDER(6), BLOCK(6), SEAL(1), LIAR(1), TELL(4), ROUND(0), VECTOR(4), CLEAR(1),
    PRICE(2), TRADED(2), FILL(3), WELFARE(1), METER(3), BALANCE(2), NEXT_DAY(0);

    final int arguments;

    Face(int arguments) {
        this.arguments = arguments;
    }

    /** Makes the call: its answer, 0 where it has none. */
    long call(AuctionHour x, int[] a) {
        switch (this) {
            case COLLATERAL: x.collateral(a[0], a[1]); return 0;
            case ORDER: return x.order(a[0], a[1], a[2], a[3], a[4], a[5]);
            case BLOCK: return x.block(a[0], a[1], a[2], a[3], a[4], a[5]);
            case SEAL: return x.seal(a[0]);
            case LIAR: x.liar(a[0]); return 0;
            case TELL: x.tell(a[0], a[1], a[2], a[3]); return 0;
            case ROUND: return x.round();
            case VECTOR: return x.vector(a[0], a[1], a[2], a[3]);
            case CLEAR: return x.clear(a[0]);
            case PRICE: return x.price(a[0], a[1]);
            case TRADED: return x.traded(a[0], a[1]);
            case FILL: return x.fill(a[0], a[1], a[2]);
            case WELFARE: return x.welfare(a[0]);
            case METER: x.meter(a[0], a[1], a[2]); return 0;
            case BALANCE: return x.balance(a[0], a[1]);
            default: x.nextDay(); return 0;
        }
    }
}
