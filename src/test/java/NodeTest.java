/** Promises 2 to 7 and 14 to 16: the conditions, and what makes them true or false. */
public final class NodeTest {
    private static final int MIN = Integer.MIN_VALUE;
    private static final int MAX = Integer.MAX_VALUE;

    public static void main(String[] args) {
        promise2Signer();
        promise3After();
        promise4Window();
        promise5Gate();
        nodesAreFullAt24();
        promise6LinkTakesInputs();
        promise6LinkRefuses();
        promise6LinkSettles();
        promise7MarkTurnsOnAndOff();
        promise7MarkSettles();
        promise14Nodes();
        promise15Truth();
        promise15AfterAndWindowFollowTheDay();
        promise16Score();
        promise16ScoreMayBeNegative();
        promise16ScoreOfFullGates();
        gatesOverGates();
        Checks.end();
    }

    private static void promise2Signer() {
        ConditionEscrow x = new ConditionEscrow(2);
        int[] wrong = {-1, 8, 9, MIN, MAX};
        for (int s : wrong) Checks.due("signer(" + s + ")", x.signer(s), -1);
        Checks.due("nodes() after refused signers", x.nodes(), 0);
        for (int s = 0; s < 8; s++) Checks.due("signer(" + s + ")", x.signer(s), s);
        Checks.due("signer(7) a second time", x.signer(7), 8);
        x.mark(7, 1);
        for (int node = 0; node < 9; node++) Checks.due("truth(" + node + ") with mark 7 on", x.truth(node), node >= 7 ? 1 : 0);
    }

    private static void promise3After() {
        ConditionEscrow x = new ConditionEscrow(2);
        int[] wrong = {-1, 1001, MIN, MAX};
        for (int day : wrong) Checks.due("after(" + day + ")", x.after(day), -1);
        Checks.due("nodes() after refused afters", x.nodes(), 0);
        Checks.due("after(0)", x.after(0), 0);
        Checks.due("after(1000)", x.after(1000), 1);
        Checks.due("truth of after(0) on day 0", x.truth(0), 1);
        Checks.due("truth of after(1000) on day 0", x.truth(1), 0);
    }

    private static void promise4Window() {
        ConditionEscrow x = new ConditionEscrow(2);
        int[] wrongPeriods = {1, 0, -1, -2, 21, MIN, MAX};
        for (int period : wrongPeriods) Checks.due("window(" + period + ", 1)", x.window(period, 1), -1);
        Checks.due("window(1, 0): the period is looked at first", x.window(1, 0), -1);
        int[] wrongOpens = {0, -1, 2, 3, MIN, MAX};
        for (int open : wrongOpens) Checks.due("window(2, " + open + ")", x.window(2, open), -2);
        Checks.due("window(20, 20)", x.window(20, 20), -2);
        Checks.due("nodes() after refused windows", x.nodes(), 0);
        Checks.due("window(2, 1)", x.window(2, 1), 0);
        Checks.due("window(20, 19)", x.window(20, 19), 1);
        Checks.due("window(20, 1)", x.window(20, 1), 2);
    }

    private static void promise5Gate() {
        ConditionEscrow x = new ConditionEscrow(2);
        int[] wrong = {-21, 21, MIN, MAX};
        for (int threshold : wrong) Checks.due("gate(" + threshold + ")", x.gate(threshold), -1);
        Checks.due("nodes() after refused gates", x.nodes(), 0);
        int[] thresholds = {-20, -1, 0, 1, 20};
        for (int node = 0; node < thresholds.length; node++) {
            Checks.due("gate(" + thresholds[node] + ")", x.gate(thresholds[node]), node);
            Checks.due("score of a gate without inputs", x.score(node), 0);
            Checks.due("truth of gate(" + thresholds[node] + ") without inputs", x.truth(node), thresholds[node] <= 0 ? 1 : 0);
        }
    }

    private static void nodesAreFullAt24() {
        ConditionEscrow x = new ConditionEscrow(2);
        for (int node = 0; node < 24; node++) {
            int made = node % 4 == 0 ? x.signer(1) : node % 4 == 1 ? x.after(5) : node % 4 == 2 ? x.window(3, 1) : x.gate(1);
            Checks.due("the number of node " + node, made, node);
        }
        Checks.due("signer(1) with 24 nodes", x.signer(1), -2);
        Checks.due("after(5) with 24 nodes", x.after(5), -2);
        Checks.due("window(3, 1) with 24 nodes", x.window(3, 1), -3);
        Checks.due("gate(1) with 24 nodes", x.gate(1), -2);
        Checks.due("signer(8) with 24 nodes", x.signer(8), -1);
        Checks.due("after(-1) with 24 nodes", x.after(-1), -1);
        Checks.due("window(21, 1) with 24 nodes", x.window(21, 1), -1);
        Checks.due("window(3, 3) with 24 nodes", x.window(3, 3), -2);
        Checks.due("gate(21) with 24 nodes", x.gate(21), -1);
        Checks.due("nodes() when full", x.nodes(), 24);
        Checks.due("truth(23)", x.truth(23), 0);
        Checks.due("link(23, 22, 5)", x.link(23, 22, 5), 0);
        Checks.due("truth(23) with an open window as input", x.truth(23), 1);
        Checks.due("truth(24)", x.truth(24), -1);
    }

    private static void promise6LinkTakesInputs() {
        ConditionEscrow x = new ConditionEscrow(2);
        x.after(0);
        x.gate(0);
        x.gate(0);
        int[] weights = {5, -5, 1, -1, 3, 4};
        int sum = 0;
        for (int weight : weights) {
            Checks.due("link(2, 0, " + weight + ")", x.link(2, 0, weight), 0);
            sum += weight;
            Checks.due("score(2) after weight " + weight, x.score(2), sum);
        }
        Checks.due("link(2, 0, 1) with 6 inputs", x.link(2, 0, 1), -4);
        Checks.due("score(2) after the refused link", x.score(2), 7);
        Checks.due("score(1), which got no input", x.score(1), 0);
        Checks.due("link(1, 0, 2) on the other gate", x.link(1, 0, 2), 0);
        Checks.due("score(1)", x.score(1), 2);
        Checks.due("score(2) still", x.score(2), 7);
    }

    private static void promise6LinkRefuses() {
        ConditionEscrow x = new ConditionEscrow(2);
        x.signer(0);
        x.after(0);
        x.window(2, 1);
        x.gate(0);
        x.gate(0);
        int[] noGates = {-1, 0, 1, 2, 5, 24, MIN, MAX};
        for (int gate : noGates) Checks.due("link(" + gate + ", 0, 1)", x.link(gate, 0, 1), -1);
        int[] noInputs = {-1, 3, 4, 5, MIN, MAX};
        for (int node : noInputs) Checks.due("link(3, " + node + ", 1)", x.link(3, node, 1), -2);
        int[] noWeights = {0, -6, 6, MIN, MAX};
        for (int weight : noWeights) Checks.due("link(3, 1, " + weight + ")", x.link(3, 1, weight), -3);
        Checks.due("link(9, 9, 9)", x.link(9, 9, 9), -1);
        Checks.due("link(3, 3, 9)", x.link(3, 3, 9), -2);
        Checks.due("score(3) after refused links", x.score(3), 0);
        for (int i = 0; i < 6; i++) Checks.due("link(3, 1, 1)", x.link(3, 1, 1), 0);
        Checks.due("link(2, 1, 1) with gate 3 full", x.link(2, 1, 1), -1);
        Checks.due("link(3, 3, 1) on a full gate", x.link(3, 3, 1), -2);
        Checks.due("link(3, 1, 0) on a full gate", x.link(3, 1, 0), -3);
        Checks.due("link(3, 1, 1) on a full gate", x.link(3, 1, 1), -4);
        Checks.due("link(4, 3, 1): a gate may be an input", x.link(4, 3, 1), 0);
    }

    private static void promise6LinkSettles() {
        ConditionEscrow x = new ConditionEscrow(2);
        x.after(0);
        x.gate(1);
        x.gate(1);
        x.offer(0, 1, 5);
        x.offer(1, 0, 5);
        x.terms(0, 1, 2);
        x.terms(1, 2, 2);
        Checks.due("deposit(0, 5)", x.deposit(0, 5), 1);
        Checks.due("link(1, 0, -1) keeps the gate false", x.link(1, 0, -1), 0);
        Checks.due("link(1, 0, 2) makes it true: a release and a funding", x.link(1, 0, 2), 2);
        Checks.due("state(0)", x.state(0), ConditionEscrow.RELEASED);
        Checks.due("link(2, 1, 1) releases the other deal", x.link(2, 1, 1), 1);
        Checks.due("state(1)", x.state(1), ConditionEscrow.RELEASED);
    }

    private static void promise7MarkTurnsOnAndOff() {
        ConditionEscrow x = new ConditionEscrow(2);
        for (int s = 0; s < 8; s++) x.signer(s);
        int[] wrong = {-1, 8, MIN, MAX};
        for (int s : wrong) Checks.due("mark(" + s + ", 1)", x.mark(s, 1), -1);
        for (int node = 0; node < 8; node++) Checks.due("truth(" + node + ") at first", x.truth(node), 0);
        int[] ons = {1, 2, -1, MIN, MAX, 256};
        for (int on : ons) {
            Checks.due("mark(7, " + on + ")", x.mark(7, on), 0);
            Checks.due("truth(7) after mark(7, " + on + ")", x.truth(7), 1);
            Checks.due("mark(7, 0)", x.mark(7, 0), 0);
            Checks.due("truth(7) after mark(7, 0)", x.truth(7), 0);
        }
        x.mark(0, 1);
        Checks.due("truth(0)", x.truth(0), 1);
        Checks.due("truth(1), another signer's", x.truth(1), 0);
    }

    private static void promise7MarkSettles() {
        ConditionEscrow x = new ConditionEscrow(2);
        x.signer(3);
        x.gate(0);
        x.link(1, 0, -1);
        x.gate(1);
        x.offer(0, 1, 5);
        x.offer(0, 1, 6);
        x.terms(0, 0, 2);
        x.terms(1, 0, 2);
        Checks.due("deposit(0, 11)", x.deposit(0, 11), 2);
        Checks.due("mark(4, 1), of a signer in no node", x.mark(4, 1), 0);
        Checks.due("mark(3, 0), off already", x.mark(3, 0), 0);
        Checks.due("mark(3, 1)", x.mark(3, 1), 2);
        Checks.due("mark(3, 1), on already", x.mark(3, 1), 0);
        x.offer(1, 0, 11);
        Checks.due("terms(2, 1, 2)", x.terms(2, 1, 2), 1);
        Checks.due("mark(3, 0) makes the gate true", x.mark(3, 0), 1);
        Checks.due("state(2)", x.state(2), ConditionEscrow.RELEASED);
    }

    private static void promise14Nodes() {
        ConditionEscrow x = new ConditionEscrow(2);
        Checks.due("nodes() of a new object", x.nodes(), 0);
        x.signer(0);
        Checks.due("nodes() after signer", x.nodes(), 1);
        x.after(1);
        Checks.due("nodes() after after", x.nodes(), 2);
        x.window(2, 1);
        Checks.due("nodes() after window", x.nodes(), 3);
        x.gate(1);
        Checks.due("nodes() after gate", x.nodes(), 4);
        x.link(3, 0, 1);
        x.offer(0, 1, 1);
        Checks.due("nodes() after link and offer", x.nodes(), 4);
    }

    private static void promise15Truth() {
        ConditionEscrow x = new ConditionEscrow(2);
        Checks.due("truth(0) without nodes", x.truth(0), -1);
        x.after(0);
        int[] wrong = {-1, 1, 23, 24, 32, MIN, MAX};
        for (int node : wrong) Checks.due("truth(" + node + ")", x.truth(node), -1);
        Checks.due("truth(0)", x.truth(0), 1);
    }

    private static void promise15AfterAndWindowFollowTheDay() {
        ConditionEscrow x = new ConditionEscrow(2);
        x.after(3);
        x.window(7, 2);
        x.window(2, 1);
        x.window(20, 19);
        for (int day = 0; day <= 45; day++) {
            Checks.due("truth of after(3) on day " + day, x.truth(0), day >= 3 ? 1 : 0);
            Checks.due("truth of window(7, 2) on day " + day, x.truth(1), day % 7 == 0 || day % 7 == 1 ? 1 : 0);
            Checks.due("truth of window(2, 1) on day " + day, x.truth(2), day % 2 == 0 ? 1 : 0);
            Checks.due("truth of window(20, 19) on day " + day, x.truth(3), day % 20 == 19 ? 0 : 1);
            x.advance(1);
        }
    }

    private static void promise16Score() {
        ConditionEscrow x = new ConditionEscrow(2);
        Checks.due("score(0) without nodes", x.score(0), -1000);
        x.signer(0);
        x.after(0);
        x.window(2, 1);
        x.gate(3);
        int[] noGates = {-1, 0, 1, 2, 4, 24, MIN, MAX};
        for (int gate : noGates) Checks.due("score(" + gate + ")", x.score(gate), -1000);
        x.link(3, 0, 2);
        x.link(3, 1, 1);
        x.link(3, 1, 1);
        Checks.due("score(3) with the mark off", x.score(3), 2);
        Checks.due("truth(3) below the threshold", x.truth(3), 0);
        x.link(3, 2, 1);
        Checks.due("score(3) with the window open", x.score(3), 3);
        Checks.due("truth(3) at the threshold", x.truth(3), 1);
        x.mark(0, 1);
        Checks.due("score(3) with the mark on", x.score(3), 5);
        Checks.due("truth(3) above the threshold", x.truth(3), 1);
        x.advance(1);
        Checks.due("score(3) with the window shut", x.score(3), 4);
    }

    private static void promise16ScoreMayBeNegative() {
        ConditionEscrow x = new ConditionEscrow(2);
        x.after(0);
        x.gate(-20);
        for (int i = 0; i < 4; i++) x.link(1, 0, -5);
        Checks.due("score(1)", x.score(1), -20);
        Checks.due("truth(1) at a threshold of -20", x.truth(1), 1);
        x.link(1, 0, -1);
        Checks.due("score(1)", x.score(1), -21);
        Checks.due("truth(1) below a threshold of -20", x.truth(1), 0);
        x.link(1, 0, -5);
        Checks.due("score(1)", x.score(1), -26);
    }

    private static void promise16ScoreOfFullGates() {
        ConditionEscrow x = new ConditionEscrow(2);
        x.after(0);
        for (int gate = 1; gate < 24; gate++) x.gate(0);
        for (int gate = 1; gate < 24; gate++) {
            for (int i = 0; i < 6; i++) Checks.due("link(" + gate + ", 0, ..)", x.link(gate, 0, gate % 5 + 1), 0);
            Checks.due("link(" + gate + ", 0, 1) on a full gate", x.link(gate, 0, 1), -4);
        }
        for (int gate = 1; gate < 24; gate++) {
            Checks.due("score(" + gate + ") with 6 inputs", x.score(gate), 6 * (gate % 5 + 1));
        }
    }

    private static void gatesOverGates() {
        ConditionEscrow x = new ConditionEscrow(2);
        x.signer(0);
        for (int gate = 1; gate < 24; gate++) {
            // Each gate turns the one before it round.
            x.gate(0);
            x.link(gate, gate - 1, -1);
        }
        for (int on = 0; on < 2; on++) {
            x.mark(0, on);
            for (int gate = 1; gate < 24; gate++) {
                Checks.due("truth(" + gate + ") with the mark " + on, x.truth(gate), (gate + on) % 2);
            }
        }
    }
}
