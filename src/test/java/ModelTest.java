/** Many mixed runs, each of 512 calls, answered by the class and by the model of the document. */
public final class ModelTest {
    private static final int RUNS = 4000;
    private static final int CALLS = Calls.MOST_CALLS;
    private static final int METHODS = 28;
    private static final int CHANGING = 11;
    private static final int ADVANCE = 10;

    private static final int[] FAR = {
        Integer.MIN_VALUE, Integer.MIN_VALUE + 1, -1000, -2, -1, 0, 1, 64, 1001, 2001, Integer.MAX_VALUE - 1, Integer.MAX_VALUE,
    };

    private long seed;
    private int askingPercent;
    private int farPercent;
    private boolean isHasty;
    private int mostDays;
    private int mostAmount;
    private final int[] seenFull = new int[4];

    public static void main(String[] args) {
        ModelTest test = new ModelTest();
        for (int run = 0; run < RUNS && Checks.allRight(); run++) test.oneRun(run);
        test.runsReachedTheEdges();
        Checks.end();
    }

    /** The same numbers in every run of the test: a plain linear congruence, with no outside source. */
    private int below(int bound) {
        seed = seed * 6364136223846793005L + 1442695040888963407L;
        return (int) ((seed >>> 33) % bound);
    }

    private int between(int least, int most) {
        return least + below(most - least + 1);
    }

    /** Mostly a number of the range with one more at either end, at times one far out. */
    private int near(int least, int most) {
        if (below(100) < farPercent) return FAR[below(FAR.length)];
        return below(20) == 0 ? between(least - 1, most + 1) : between(least, most);
    }

    private void oneRun(int run) {
        seed = run + 1;
        askingPercent = between(20, 80);
        farPercent = between(0, 3);
        isHasty = below(4) == 0;
        mostDays = isHasty ? 60 : between(1, 8);
        mostAmount = below(3) == 0 ? 1000 : between(5, 60);
        int accounts = between(0, 8);
        ConditionEscrow x = new ConditionEscrow(accounts);
        Model m = new Model(accounts);
        for (int call = 0; call < CALLS && Checks.allRight(); call++) {
            String at = "run " + run + ", call " + call + ": ";
            if (below(100) < askingPercent) {
                ask(at, between(CHANGING, METHODS - 1), x, m);
            } else {
                change(at, isHasty && below(4) == 0 ? ADVANCE : below(CHANGING), x, m);
            }
        }
        if (m.nodes() == 24) seenFull[0]++;
        if (m.deals() == 12) seenFull[1]++;
        if (m.entries() > 50) seenFull[2]++;
        if (m.today() > 1940) seenFull[3]++;
    }

    private void change(String at, int method, ConditionEscrow x, Model m) {
        int a = 0;
        int b = 0;
        int c = 0;
        switch (method) {
            case 0: a = near(0, 7); Checks.due(at + "signer(" + a + ")", x.signer(a), m.signer(a)); break;
            case 1: a = near(0, below(2) == 0 ? 1000 : 30); Checks.due(at + "after(" + a + ")", x.after(a), m.after(a)); break;
            case 2: a = near(2, 20); b = near(1, 8);
                Checks.due(at + "window(" + a + ", " + b + ")", x.window(a, b), m.window(a, b)); break;
            case 3: a = below(4) == 0 ? near(-20, 20) : near(-3, 5); Checks.due(at + "gate(" + a + ")", x.gate(a), m.gate(a)); break;
            case 4: a = near(0, m.nodes()); b = near(0, Math.max(a % 32, 1) - 1); c = near(-5, 5);
                Checks.due(at + "link(" + a + ", " + b + ", " + c + ")", x.link(a, b, c), m.link(a, b, c)); break;
            case 5: a = near(0, 7); b = near(0, 1); Checks.due(at + "mark(" + a + ", " + b + ")", x.mark(a, b), m.mark(a, b)); break;
            case 6: a = near(0, 5); b = near(1, mostAmount);
                Checks.due(at + "deposit(" + a + ", " + b + ")", x.deposit(a, b), m.deposit(a, b)); break;
            case 7: a = near(0, 5); b = near(0, 5); c = near(1, mostAmount);
                Checks.due(at + "offer(" + a + ", " + b + ", " + c + ")", x.offer(a, b, c), m.offer(a, b, c)); break;
            case 8: a = near(0, 11); b = near(0, m.nodes()); c = near(0, m.nodes());
                Checks.due(at + "terms(" + a + ", " + b + ", " + c + ")", x.terms(a, b, c), m.terms(a, b, c)); break;
            case 9: a = below(3) == 0 ? near(0, 11) : -1; Checks.due(at + "cancel(" + a + ")", x.cancel(a), m.cancel(a)); break;
            default: a = near(1, mostDays); Checks.due(at + "advance(" + a + ")", x.advance(a), m.advance(a)); break;
        }
    }

    private void ask(String at, int method, ConditionEscrow x, Model m) {
        int a = 0;
        int b = 0;
        int c = 0;
        switch (method) {
            case 11: Checks.due(at + "today()", x.today(), m.today()); break;
            case 12: Checks.due(at + "nodes()", x.nodes(), m.nodes()); break;
            case 13: a = near(0, 23); Checks.due(at + "truth(" + a + ")", x.truth(a), m.truth(a)); break;
            case 14: a = near(0, 23); Checks.due(at + "score(" + a + ")", x.score(a), m.score(a)); break;
            case 15: Checks.due(at + "deals()", x.deals(), m.deals()); break;
            case 16: a = near(0, 11); Checks.due(at + "state(" + a + ")", x.state(a), m.state(a)); break;
            case 17: a = near(0, 5); Checks.due(at + "balance(" + a + ")", x.balance(a), m.balance(a)); break;
            case 18: Checks.due(at + "held()", x.held(), m.held()); break;
            case 19: Checks.due(at + "entries()", x.entries(), m.entries()); break;
            case 20: a = near(0, m.entries()); Checks.due(at + "entryKind(" + a + ")", x.entryKind(a), m.entryKind(a)); break;
            case 21: a = near(0, m.entries()); Checks.due(at + "entryAccount(" + a + ")", x.entryAccount(a), m.entryAccount(a)); break;
            case 22: a = near(0, m.entries()); Checks.due(at + "entryAmount(" + a + ")", x.entryAmount(a), m.entryAmount(a)); break;
            case 23: a = near(0, m.entries()); Checks.due(at + "entryDeal(" + a + ")", x.entryDeal(a), m.entryDeal(a)); break;
            case 24: a = near(0, m.entries()); Checks.due(at + "entryDay(" + a + ")", x.entryDay(a), m.entryDay(a)); break;
            case 25: a = near(0, 5); b = near(0, m.today());
                Checks.due(at + "balanceOn(" + a + ", " + b + ")", x.balanceOn(a, b), m.balanceOn(a, b)); break;
            case 26: a = near(0, 5); b = near(0, m.entries()); c = near(b % 64, 64) % (m.entries() + 2);
                Checks.due(at + "lowest(" + a + ", " + b + ", " + c + ")", x.lowest(a, b, c), m.lowest(a, b, c)); break;
            default: a = near(0, 11); Checks.due(at + "forecast(" + a + ")", x.forecast(a), m.forecast(a)); break;
        }
    }

    /** Runs that never fill anything would compare little. */
    private void runsReachedTheEdges() {
        String[] edges = {"24 nodes", "12 deals", "more than 50 entries", "the last 60 days"};
        for (int i = 0; i < edges.length; i++) {
            System.out.println(seenFull[i] + " runs reached " + edges[i]);
            Checks.holds("some runs reach " + edges[i], seenFull[i] >= 20 || !Checks.allRight());
        }
    }
}
