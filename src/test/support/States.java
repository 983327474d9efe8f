/** States that many tests start from. The object may be one of the class or one of the model. */
final class States {
    static final int ACCOUNTS = 3;

    private States() {
    }

    static Calls fresh(Object object) {
        return new Calls(object);
    }

    /**
     * Some of everything, on day 3: node 0 is true and node 1 false; deals 0 to 5 are each in the state of their own
     * number; signer 0 releases deals 1 and 2; gate 6 has three inputs.
     */
    static Calls middle(Object object) {
        Calls x = new Calls(object);
        x.taken("after(0) gate(20) signer(0) signer(7) window(7, 2) after(9) gate(2)");
        x.taken("link(6, 3, 1) link(6, 4, 2) link(6, 5, -1) mark(7, 1) advance(2)");
        addDealInEveryState(x);
        x.taken("advance(1) deposit(2, 40)");
        return x;
    }

    /**
     * 24 nodes, 12 deals, 40 deposits, day 1985: node 0 is true and node 1 false; deals 0 to 5 are each in the state of
     * their own number; signer 0 releases deals 1 and 2; signer 7 releases deal 6, which brings account 0 just what
     * deal 1 waits for; gates 6 and 23 have six inputs, and signer 7 brings gate 6 just to its threshold.
     */
    static Calls full(Object object) {
        Calls x = new Calls(object);
        x.taken("after(0) gate(20) signer(0) signer(7) window(7, 2) after(1000) gate(6)");
        x.taken(16, "gate(1)");
        x.taken("gate(0)");
        x.taken(6, "link(6, 3, 1) link(23, 22, -1)");
        addDealInEveryState(x);
        x.taken("offer(1, 0, 5) offer(0, 2, 9) offer(1, 2, 9) offer(2, 1, 9) offer(2, 0, 9) offer(0, 1, 9)");
        x.taken("terms(6, 3, 1) terms(8, 0, 1) terms(9, 1, 0) deposit(1, 9)");
        x.taken(37, "deposit(2, 1000)");
        x.untilDay(1985);
        for (int deal = 0; deal < 6; deal++) x.due(deal, "state(" + deal + ")");
        return x;
    }

    static Calls fullOnTheLastDay(Object object) {
        Calls x = full(object);
        x.untilDay(2000);
        return x;
    }

    /** Twelve deals that are all ended, 40 deposits, and so all 64 entries, on day 0. */
    static Calls ended(Object object) {
        Calls x = new Calls(object);
        x.taken("after(0) gate(20)");
        for (int deal = 0; deal < 12; deal++) x.taken("offer(0, 1, 10) terms(" + deal + ", " + deal % 2 + ", 0)");
        x.taken(40, "deposit(0, 10)");
        x.due(64, "entries()");
        return x;
    }

    private static void addDealInEveryState(Calls x) {
        x.taken(6, "offer(0, 1, 5)");
        x.taken("deposit(0, 5) terms(4, 1, 0) terms(3, 0, 1) deposit(0, 5) terms(2, 2, 1) terms(1, 2, 1) cancel(5)");
        for (int deal = 0; deal < 6; deal++) x.due(deal, "state(" + deal + ")");
    }
}
