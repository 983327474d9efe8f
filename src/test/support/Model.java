import java.util.ArrayList;
import java.util.List;

/**
 * The document read a second time, in another way: objects and lists, recursion for gates, truths worked out anew
 * for every move, and a copy of all balances after every entry.
 */
final class Model {
    private interface Condition {
        boolean isTrue(int day);
    }

    private static final class Gate implements Condition {
        final int threshold;
        final List<Condition> inputs = new ArrayList<>();
        final List<Integer> weights = new ArrayList<>();

        Gate(int threshold) {
            this.threshold = threshold;
        }

        int score(int day) {
            int sum = 0;
            for (int i = 0; i < inputs.size(); i++) sum += inputs.get(i).isTrue(day) ? weights.get(i) : 0;
            return sum;
        }

        @Override
        public boolean isTrue(int day) {
            return score(day) >= threshold;
        }
    }

    private static final class Deal {
        int payer;
        int payee;
        int amount;
        int state;
        Condition release;
        Condition refund;
    }

    private static final class Entry {
        int kind;
        int account;
        int amount;
        int deal;
        int day;
        int[] balancesAfter;
    }

    private final int[] balances;
    private final boolean[] marks = new boolean[8];
    private final List<Condition> nodes = new ArrayList<>();
    private final List<Deal> deals = new ArrayList<>();
    private final List<Entry> entries = new ArrayList<>();
    private int deposits = 0;
    private int today = 0;

    Model(int accounts) {
        balances = new int[Math.max(2, Math.min(6, accounts))];
    }

    private static boolean outside(int value, int least, int most) {
        return value < least || value > most;
    }

    private boolean noAccount(int account) {
        return outside(account, 0, balances.length - 1);
    }

    private boolean noNode(int node) {
        return outside(node, 0, nodes.size() - 1);
    }

    private boolean noGate(int node) {
        return noNode(node) || !(nodes.get(node) instanceof Gate);
    }

    private boolean noDeal(int deal) {
        return outside(deal, 0, deals.size() - 1);
    }

    private boolean noEntry(int i) {
        return outside(i, 0, entries.size() - 1);
    }

    private int make(Condition node) {
        nodes.add(node);
        return nodes.size() - 1;
    }

    int signer(int s) {
        return outside(s, 0, 7) ? -1 : nodes.size() == 24 ? -2 : make(day -> marks[s]);
    }

    int after(int from) {
        return outside(from, 0, 1000) ? -1 : nodes.size() == 24 ? -2 : make(day -> day >= from);
    }

    int window(int period, int open) {
        if (outside(period, 2, 20)) return -1;
        if (outside(open, 1, period - 1)) return -2;
        return nodes.size() == 24 ? -3 : make(day -> day % period < open);
    }

    int gate(int threshold) {
        return outside(threshold, -20, 20) ? -1 : nodes.size() == 24 ? -2 : make(new Gate(threshold));
    }

    int link(int number, int node, int weight) {
        if (noGate(number)) return -1;
        if (outside(node, 0, number - 1)) return -2;
        if (weight == 0 || outside(weight, -5, 5)) return -3;
        Gate gate = (Gate) nodes.get(number);
        if (gate.inputs.size() == 6) return -4;
        gate.inputs.add(nodes.get(node));
        gate.weights.add(weight);
        return settling();
    }

    int mark(int s, int on) {
        if (outside(s, 0, 7)) return -1;
        if (marks[s] == (on != 0)) return 0;
        marks[s] = !marks[s];
        return settling();
    }

    int deposit(int account, int amount) {
        if (noAccount(account)) return -1;
        if (outside(amount, 1, 1000)) return -2;
        if (deposits == 40) return -3;
        deposits++;
        balances[account] += amount;
        enter(0, account, amount, -1);
        return settling();
    }

    int offer(int payer, int payee, int amount) {
        if (noAccount(payer) || noAccount(payee)) return -1;
        if (payer == payee) return -2;
        if (outside(amount, 1, 1000)) return -3;
        if (deals.size() == 12) return -4;
        Deal deal = new Deal();
        deal.payer = payer;
        deal.payee = payee;
        deal.amount = amount;
        deals.add(deal);
        return deals.size() - 1;
    }

    int terms(int number, int release, int refund) {
        if (noDeal(number)) return -1;
        Deal deal = deals.get(number);
        if (deal.state != 0) return -2;
        if (noNode(release) || noNode(refund)) return -3;
        deal.release = nodes.get(release);
        deal.refund = nodes.get(refund);
        deal.state = 1;
        return settling();
    }

    int cancel(int number) {
        if (noDeal(number)) return -1;
        Deal deal = deals.get(number);
        int before = deal.state;
        if (before > 1) return -2;
        deal.state = 5;
        return before;
    }

    int advance(int days) {
        if (outside(days, 1, 60)) return -1;
        if (today + days > 2000) return -2;
        int moves = 0;
        for (int i = 0; i < days; i++) {
            today++;
            moves += settling();
        }
        return moves;
    }

    private int settling() {
        int before = entries.size();
        boolean moved = true;
        while (moved) {
            moved = false;
            for (int number = 0; number < deals.size() && !moved; number++) moved = movedOnce(number);
        }
        return entries.size() - before;
    }

    private boolean movedOnce(int number) {
        Deal deal = deals.get(number);
        if (deal.state == 1 && balances[deal.payer] >= deal.amount) {
            balances[deal.payer] -= deal.amount;
            deal.state = 2;
            enter(1, deal.payer, deal.amount, number);
            return true;
        }
        if (deal.state == 2 && deal.release.isTrue(today)) {
            balances[deal.payee] += deal.amount;
            deal.state = 3;
            enter(2, deal.payee, deal.amount, number);
            return true;
        }
        if (deal.state == 2 && deal.refund.isTrue(today)) {
            balances[deal.payer] += deal.amount;
            deal.state = 4;
            enter(3, deal.payer, deal.amount, number);
            return true;
        }
        return false;
    }

    private void enter(int kind, int account, int amount, int deal) {
        Entry entry = new Entry();
        entry.kind = kind;
        entry.account = account;
        entry.amount = amount;
        entry.deal = deal;
        entry.day = today;
        entry.balancesAfter = balances.clone();
        entries.add(entry);
    }

    int today() {
        return today;
    }

    int nodes() {
        return nodes.size();
    }

    int truth(int node) {
        return noNode(node) ? -1 : nodes.get(node).isTrue(today) ? 1 : 0;
    }

    int score(int gate) {
        return noGate(gate) ? -1000 : ((Gate) nodes.get(gate)).score(today);
    }

    int deals() {
        return deals.size();
    }

    int state(int deal) {
        return noDeal(deal) ? -1 : deals.get(deal).state;
    }

    int balance(int account) {
        return noAccount(account) ? -1 : balances[account];
    }

    int held() {
        return deals.stream().filter(deal -> deal.state == 2).mapToInt(deal -> deal.amount).sum();
    }

    int entries() {
        return entries.size();
    }

    int entryKind(int i) {
        return noEntry(i) ? -1 : entries.get(i).kind;
    }

    int entryAccount(int i) {
        return noEntry(i) ? -1 : entries.get(i).account;
    }

    int entryAmount(int i) {
        return noEntry(i) ? -1 : entries.get(i).amount;
    }

    int entryDeal(int i) {
        return noEntry(i) ? -2 : entries.get(i).deal;
    }

    int entryDay(int i) {
        return noEntry(i) ? -1 : entries.get(i).day;
    }

    private int balanceAfter(int account, int entryCount) {
        return entryCount == 0 ? 0 : entries.get(entryCount - 1).balancesAfter[account];
    }

    int balanceOn(int account, int day) {
        if (noAccount(account)) return -1;
        if (day >= today) return balances[account];
        int count = 0;
        while (count < entries.size() && entries.get(count).day <= day) count++;
        return balanceAfter(account, count);
    }

    int lowest(int account, int i, int j) {
        if (noAccount(account)) return -1;
        if (i < 0 || j < i || entries.size() < j) return -2;
        int least = Integer.MAX_VALUE;
        for (int k = i; k <= j; k++) least = Math.min(least, balanceAfter(account, k));
        return least;
    }

    int forecast(int number) {
        if (noDeal(number)) return -1;
        Condition release = deals.get(number).release;
        if (release == null) return -2;
        int day = today;
        while (day <= today + 200 && !release.isTrue(day)) day++;
        return day <= today + 200 ? day : -3;
    }
}
