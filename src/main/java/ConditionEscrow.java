/** Escrow deals over accounts; their money moves by itself when weighted conditions come true. */
public final class ConditionEscrow {
    public static final int DRAFT = 0;
    public static final int WAITING = 1;
    public static final int HELD = 2;
    public static final int RELEASED = 3;
    public static final int REFUNDED = 4;
    public static final int CANCELLED = 5;
    public static final int DEPOSIT = 0;
    public static final int FUND = 1;
    public static final int RELEASE = 2;
    public static final int REFUND = 3;

    private static final int MIN_ACCOUNTS = 2;
    private static final int MAX_ACCOUNTS = 6;
    private static final int SIGNERS = 8;
    private static final int MAX_NODES = 24;
    private static final int MAX_INPUTS = 6;
    private static final int ALL_INPUTS = MAX_NODES * MAX_INPUTS;
    private static final int MAX_DEALS = 12;
    private static final int MAX_DEPOSITS = 40;
    private static final int MAX_AMOUNT = 1000;
    private static final int MAX_AFTER_DAY = 1000;
    private static final int MIN_PERIOD = 2;
    private static final int MAX_PERIOD = 20;
    private static final int MAX_THRESHOLD = 20;
    private static final int MAX_WEIGHT = 5;
    private static final int MAX_STEP = 60;
    private static final int LAST_DAY = 2000;
    private static final int FORECAST_DAYS = 200;

    // A deal is funded once and then released or refunded once, so it never moves a third time.
    private static final int MAX_MOVES = 2 * MAX_DEALS;
    // Only deposits and moves make entries, so the entry arrays can't run over.
    private static final int MAX_ENTRIES = MAX_DEPOSITS + MAX_MOVES;

    private static final int SIGNER_NODE = 0;
    private static final int AFTER_NODE = 1;
    private static final int WINDOW_NODE = 2;
    private static final int GATE_NODE = 3;

    private static final int NO_MOVE = -1;
    private static final int NO_DEAL = -1;
    private static final int NO_NODE = -1;
    // A score may well be -1, so a number that no score reaches says that there is no gate.
    private static final int NO_SCORE = -1000;

    private final int accountCount;
    private final int[] balances = new int[MAX_ACCOUNTS];
    private int currentDay;

    private final boolean[] marks = new boolean[SIGNERS];

    private int nodeCount;
    private final int[] nodeKinds = new int[MAX_NODES];
    // The signer, the day, the period or the threshold, as the kind of the node has it.
    private final int[] nodeValues = new int[MAX_NODES];
    private final int[] windowOpens = new int[MAX_NODES];
    private final int[] inputCounts = new int[MAX_NODES];
    // The inputs of gate g stand from g * MAX_INPUTS on.
    private final int[] inputNodes = new int[ALL_INPUTS];
    private final int[] inputWeights = new int[ALL_INPUTS];

    private int dealCount;
    private final int[] payers = new int[MAX_DEALS];
    private final int[] payees = new int[MAX_DEALS];
    private final int[] dealAmounts = new int[MAX_DEALS];
    private final int[] releaseNodes = new int[MAX_DEALS];
    private final int[] refundNodes = new int[MAX_DEALS];
    private final int[] dealStates = new int[MAX_DEALS];

    private int depositCount;
    private int entryCount;
    private final int[] entryKinds = new int[MAX_ENTRIES];
    private final int[] entryAccounts = new int[MAX_ENTRIES];
    private final int[] entryAmounts = new int[MAX_ENTRIES];
    private final int[] entryDeals = new int[MAX_ENTRIES];
    private final int[] entryDays = new int[MAX_ENTRIES];

    public ConditionEscrow(int accounts) {
        if (accounts < MIN_ACCOUNTS) {
            accountCount = MIN_ACCOUNTS;
        } else if (accounts > MAX_ACCOUNTS) {
            accountCount = MAX_ACCOUNTS;
        } else {
            accountCount = accounts;
        }
    }

    public int signer(int s) {
        if (!isSigner(s)) return -1;
        if (nodeCount >= MAX_NODES) return -2;
        return addNode(SIGNER_NODE, s);
    }

    public int after(int day) {
        if (day < 0 || day > MAX_AFTER_DAY) return -1;
        if (nodeCount >= MAX_NODES) return -2;
        return addNode(AFTER_NODE, day);
    }

    public int window(int period, int open) {
        if (period < MIN_PERIOD || period > MAX_PERIOD) return -1;
        if (open < 1 || open >= period) return -2;
        if (nodeCount >= MAX_NODES) return -3;
        int node = addNode(WINDOW_NODE, period);
        windowOpens[node] = open;
        return node;
    }

    public int gate(int threshold) {
        if (threshold < -MAX_THRESHOLD || threshold > MAX_THRESHOLD) return -1;
        if (nodeCount >= MAX_NODES) return -2;
        return addNode(GATE_NODE, threshold);
    }

    public int link(int gate, int node, int weight) {
        if (!isGate(gate)) return -1;
        if (node < 0 || node >= gate) return -2;
        if (weight == 0 || weight < -MAX_WEIGHT || weight > MAX_WEIGHT) return -3;
        if (inputCounts[gate] >= MAX_INPUTS) return -4;
        int place = gate * MAX_INPUTS + inputCounts[gate];
        inputNodes[place] = node;
        inputWeights[place] = weight;
        inputCounts[gate]++;
        return settle();
    }

    public int mark(int s, int on) {
        if (!isSigner(s)) return -1;
        marks[s] = on != 0;
        return settle();
    }

    public int deposit(int account, int amount) {
        if (!isAccount(account)) return -1;
        if (!isAmount(amount)) return -2;
        if (depositCount >= MAX_DEPOSITS) return -3;
        depositCount++;
        book(DEPOSIT, account, amount, NO_DEAL);
        return settle();
    }

    public int offer(int payer, int payee, int amount) {
        if (!isAccount(payer) || !isAccount(payee)) return -1;
        if (payer == payee) return -2;
        if (!isAmount(amount)) return -3;
        if (dealCount >= MAX_DEALS) return -4;
        int deal = dealCount;
        payers[deal] = payer;
        payees[deal] = payee;
        dealAmounts[deal] = amount;
        releaseNodes[deal] = NO_NODE;
        refundNodes[deal] = NO_NODE;
        dealStates[deal] = DRAFT;
        dealCount++;
        return deal;
    }

    public int terms(int deal, int release, int refund) {
        if (!isDeal(deal)) return -1;
        if (dealStates[deal] != DRAFT) return -2;
        if (!isNode(release) || !isNode(refund)) return -3;
        releaseNodes[deal] = release;
        refundNodes[deal] = refund;
        dealStates[deal] = WAITING;
        return settle();
    }

    public int cancel(int deal) {
        if (!isDeal(deal)) return -1;
        int before = dealStates[deal];
        if (before != DRAFT && before != WAITING) return -2;
        dealStates[deal] = CANCELLED;
        return before;
    }

    public int advance(int days) {
        if (days < 1 || days > MAX_STEP) return -1;
        if (currentDay + days > LAST_DAY) return -2;
        int moves = 0;
        for (int passed = 0; passed < days; passed++) {
            currentDay++;
            moves += settle();
        }
        return moves;
    }

    public int today() {
        return currentDay;
    }

    public int nodes() {
        return nodeCount;
    }

    public int truth(int node) {
        if (!isNode(node)) return -1;
        int truths = truthsOn(currentDay);
        return isIn(truths, node) ? 1 : 0;
    }

    public int score(int gate) {
        if (!isGate(gate)) return NO_SCORE;
        int truths = truthsOn(currentDay);
        return scoreFrom(gate, truths);
    }

    public int deals() {
        return dealCount;
    }

    public int state(int deal) {
        return isDeal(deal) ? dealStates[deal] : -1;
    }

    public int balance(int account) {
        return isAccount(account) ? balances[account] : -1;
    }

    public int held() {
        int sum = 0;
        for (int deal = 0; deal < dealCount; deal++) {
            if (dealStates[deal] == HELD) sum += dealAmounts[deal];
        }
        return sum;
    }

    public int entries() {
        return entryCount;
    }

    public int entryKind(int i) {
        return isEntry(i) ? entryKinds[i] : -1;
    }

    public int entryAccount(int i) {
        return isEntry(i) ? entryAccounts[i] : -1;
    }

    public int entryAmount(int i) {
        return isEntry(i) ? entryAmounts[i] : -1;
    }

    public int entryDeal(int i) {
        return isEntry(i) ? entryDeals[i] : -2;
    }

    public int entryDay(int i) {
        return isEntry(i) ? entryDays[i] : -1;
    }

    public int balanceOn(int account, int day) {
        if (!isAccount(account)) return -1;
        int sum = 0;
        for (int i = 0; i < entryCount; i++) {
            if (entryDays[i] <= day) sum += changeBy(i, account);
        }
        return sum;
    }

    public int lowest(int account, int i, int j) {
        if (!isAccount(account)) return -1;
        if (i < 0 || i > j || j > entryCount) return -2;
        int sum = 0;
        for (int k = 0; k < i; k++) {
            sum += changeBy(k, account);
        }
        int least = sum;
        for (int k = i; k < j; k++) {
            sum += changeBy(k, account);
            if (sum < least) least = sum;
        }
        return least;
    }

    public int forecast(int deal) {
        if (!isDeal(deal)) return -1;
        int release = releaseNodes[deal];
        if (release == NO_NODE) return -2;
        for (int ahead = 0; ahead <= FORECAST_DAYS; ahead++) {
            int day = currentDay + ahead;
            int truths = truthsOn(day);
            if (isIn(truths, release)) return day;
        }
        return -3;
    }

    private boolean isAccount(int account) {
        return account >= 0 && account < accountCount;
    }

    private static boolean isSigner(int s) {
        return s >= 0 && s < SIGNERS;
    }

    private static boolean isAmount(int amount) {
        return amount >= 1 && amount <= MAX_AMOUNT;
    }

    private boolean isNode(int node) {
        return node >= 0 && node < nodeCount;
    }

    private boolean isGate(int node) {
        return isNode(node) && nodeKinds[node] == GATE_NODE;
    }

    private boolean isDeal(int deal) {
        return deal >= 0 && deal < dealCount;
    }

    private boolean isEntry(int i) {
        return i >= 0 && i < entryCount;
    }

    private int addNode(int kind, int value) {
        int node = nodeCount;
        nodeKinds[node] = kind;
        nodeValues[node] = value;
        nodeCount++;
        return node;
    }

    // A set of nodes is an int with a bit for each node: the 24 nodes fit, and a question
    // needs no array to work in.
    private static boolean isIn(int set, int node) {
        return (set >> node & 1) == 1;
    }

    // A gate's inputs are earlier nodes, so one pass in order finds them all worked out already.
    private int truthsOn(int day) {
        int truths = 0;
        for (int node = 0; node < nodeCount; node++) {
            if (isTrue(node, day, truths)) truths |= 1 << node;
        }
        return truths;
    }

    private boolean isTrue(int node, int day, int earlierTruths) {
        int value = nodeValues[node];
        switch (nodeKinds[node]) {
            case SIGNER_NODE:
                return marks[value];
            case AFTER_NODE:
                return day >= value;
            case WINDOW_NODE:
                // window() takes no period below 2, so this never divides by 0.
                return day % value < windowOpens[node];
            default:
                return scoreFrom(node, earlierTruths) >= value;
        }
    }

    private int scoreFrom(int gate, int truths) {
        int sum = 0;
        int first = gate * MAX_INPUTS;
        int end = first + inputCounts[gate];
        for (int place = first; place < end; place++) {
            if (isIn(truths, inputNodes[place])) sum += inputWeights[place];
        }
        return sum;
    }

    // Moves change neither marks nor days nor inputs, so the truths hold for a whole settling.
    private int settle() {
        int truths = truthsOn(currentDay);
        int moves = 0;
        while (moves < MAX_MOVES) {
            int deal = firstThatCanMove(truths);
            if (deal == NO_DEAL) break;
            int move = nextMove(deal, truths);
            makeMove(deal, move);
            moves++;
        }
        return moves;
    }

    private int firstThatCanMove(int truths) {
        for (int deal = 0; deal < dealCount; deal++) {
            if (nextMove(deal, truths) != NO_MOVE) return deal;
        }
        return NO_DEAL;
    }

    private int nextMove(int deal, int truths) {
        if (dealStates[deal] == WAITING) {
            return balances[payers[deal]] >= dealAmounts[deal] ? FUND : NO_MOVE;
        }
        if (dealStates[deal] != HELD) return NO_MOVE;
        if (isIn(truths, releaseNodes[deal])) return RELEASE;
        if (isIn(truths, refundNodes[deal])) return REFUND;
        return NO_MOVE;
    }

    private void makeMove(int deal, int move) {
        if (move == FUND) {
            dealStates[deal] = HELD;
        } else if (move == RELEASE) {
            dealStates[deal] = RELEASED;
        } else {
            dealStates[deal] = REFUNDED;
        }
        int account = move == RELEASE ? payees[deal] : payers[deal];
        book(move, account, dealAmounts[deal], deal);
    }

    private void book(int kind, int account, int amount, int deal) {
        int i = entryCount;
        entryKinds[i] = kind;
        entryAccounts[i] = account;
        entryAmounts[i] = amount;
        entryDeals[i] = deal;
        entryDays[i] = currentDay;
        entryCount++;
        balances[account] += changeBy(i, account);
    }

    private int changeBy(int i, int account) {
        if (entryAccounts[i] != account) return 0;
        return entryKinds[i] == FUND ? -entryAmounts[i] : entryAmounts[i];
    }
}
