/** Promises 2 to 7 and 14 to 16, sentence by sentence: the conditions, and what makes them true or false. */
public final class NodeTest {
    public static void main(String[] args) {
        Checks.promise(2, "-1 if s is not in 0 .. 7", NodeTest::signerOutOfRange);
        Checks.promise(2, "-2 if there are 24 nodes", NodeTest::signerWhenFull);
        Checks.promise(2, "otherwise answers the new node's number", NodeTest::signerIsNumbered);
        Checks.promise(3, "-1 if day is not in 0 .. 1000", NodeTest::afterOutOfRange);
        Checks.promise(3, "-2 if there are 24 nodes", NodeTest::afterWhenFull);
        Checks.promise(3, "otherwise answers the new node's number", NodeTest::afterIsNumbered);
        Checks.promise(4, "-1 if period is not in 2 .. 20", NodeTest::periodOutOfRange);
        Checks.promise(4, "-2 if open is not in 1 .. period-1", NodeTest::openOutOfRange);
        Checks.promise(4, "-3 if there are 24 nodes", NodeTest::windowWhenFull);
        Checks.promise(4, "otherwise answers the new node's number", NodeTest::windowIsNumbered);
        Checks.promise(5, "Makes a gate without inputs", NodeTest::gateHasNoInputs);
        Checks.promise(5, "-1 if threshold is not in -20 .. 20", NodeTest::thresholdOutOfRange);
        Checks.promise(5, "-2 if there are 24 nodes", NodeTest::gateWhenFull);
        Checks.promise(5, "otherwise answers the new node's number", NodeTest::gateIsNumbered);
        Checks.promise(6, "Node becomes a further input of the gate, with this weight", NodeTest::linkAddsAnInput);
        Checks.promise(6, "-1 if gate is not the number of a gate", NodeTest::linkToNoGate);
        Checks.promise(6, "-2 if node is not in 0 .. gate-1", NodeTest::linkOfNoEarlierNode);
        Checks.promise(6, "-2 if node is not in 0 .. gate-1", NodeTest::nodeZeroHasNoEarlierNode);
        Checks.promise(6, "-3 if weight is 0", NodeTest::linkWithWeightZero);
        Checks.promise(6, "-3 if weight is 0 or not in -5 .. 5", NodeTest::linkWithWeightOutOfRange);
        Checks.promise(6, "-4 if the gate has 6 inputs", NodeTest::linkToFullGate);
        Checks.promise(6, "-4 if the gate has 6 inputs", NodeTest::everyGateHasRoomForSix);
        Checks.promise(6, "then settling", NodeTest::linkSettles);
        Checks.promise(6, "otherwise answers how many moves were made", NodeTest::linkCountsMoves);
        Checks.promise(7, "Turns the mark of signer s on (on not 0)", NodeTest::markOnForAnyNumberButZero);
        Checks.promise(7, "or off (on is 0)", NodeTest::markOffForZero);
        Checks.promise(7, "then settling", NodeTest::markSettles);
        Checks.promise(7, "-1 if s is not in 0 .. 7", NodeTest::markOutOfRange);
        Checks.promise(7, "otherwise answers how many moves were made", NodeTest::markCountsMoves);
        Checks.promise(7, "(0 if the mark was so already)", NodeTest::markThatWasSoAlready);
        Checks.promise(14, "How many nodes there are", NodeTest::nodesFromNoneToFull);
        Checks.promise(15, "1 if the node is true now, 0 if it is false", NodeTest::truthOfEveryKind);
        Checks.promise(15, "-1 if there is no such node", NodeTest::truthOfNoNode);
        Checks.promise(15, "-1 if there is no such node", NodeTest::truthOfNoNodeWhenFull);
        Checks.promise(16, "The gate's score now", NodeTest::scoreFollowsTheInputs);
        Checks.promise(16, "The gate's score now", NodeTest::scoreReachesBothEnds);
        Checks.promise(16, "The gate's score now", NodeTest::scoresOfFullGatesAreApart);
        Checks.promise(16, "-1000 if it is not the number of a gate", NodeTest::scoreOfNoGate);
        Checks.end();
    }

    private static Calls withGates(int count) {
        Calls x = new Calls(2);
        x.taken(count, "gate(1)");
        return x;
    }

    private static void signerOutOfRange() {
        Calls x = new Calls(2);
        x.due(-1, "signer(-1) signer(8) signer(9) signer(MIN) signer(MAX)");
        x.due(0, "signer(0)");
        x.due(1, "signer(7)");
    }

    private static void signerWhenFull() {
        Calls x = withGates(23);
        x.due(23, "signer(0)");
        x.due(-2, "signer(0) signer(7)");
    }

    private static void signerIsNumbered() {
        Calls x = new Calls(2);
        for (int s = 0; s < 8; s++) x.due(s, "signer(" + s + ")");
        for (int s = 0; s < 8; s++) x.due(8 + s, "signer(" + s + ")");
        x.taken("mark(7, 1)");
        x.due(1, "truth(7) truth(15)");
        x.due(0, "truth(6) truth(8) truth(14)");
    }

    private static void afterOutOfRange() {
        Calls x = new Calls(2);
        x.due(-1, "after(-1) after(1001) after(MIN) after(MAX)");
        x.due(0, "after(0)");
        x.due(1, "after(1000)");
    }

    private static void afterWhenFull() {
        Calls x = withGates(23);
        x.due(23, "after(0)");
        x.due(-2, "after(0) after(1000)");
    }

    private static void afterIsNumbered() {
        Calls x = new Calls(2);
        for (int node = 0; node < 24; node++) x.due(node, "after(" + 40 * node + ")");
    }

    private static void periodOutOfRange() {
        Calls x = new Calls(2);
        x.due(-1, "window(1, 1) window(0, 1) window(-1, 1) window(-2, 1) window(21, 1) window(MIN, 1) window(MAX, 1)");
        x.due(0, "window(2, 1)");
        x.due(1, "window(20, 1)");
    }

    private static void openOutOfRange() {
        for (int period = 2; period <= 20; period++) {
            Calls x = new Calls(2);
            int[] wrong = {0, -1, period, period + 1, Integer.MIN_VALUE, Integer.MAX_VALUE};
            for (int open : wrong) x.due(-2, "window(" + period + ", " + open + ")");
            x.due(0, "window(" + period + ", 1)");
            x.due(1, "window(" + period + ", " + (period - 1) + ")");
        }
    }

    private static void windowWhenFull() {
        Calls x = withGates(23);
        x.due(23, "window(2, 1)");
        x.due(-3, "window(2, 1) window(20, 19)");
    }

    private static void windowIsNumbered() {
        Calls x = new Calls(2);
        for (int period = 2; period <= 20; period++) x.due(period - 2, "window(" + period + ", " + (period - 1) + ")");
    }

    private static void gateHasNoInputs() {
        Calls x = new Calls(2);
        x.taken("after(0) gate(0) gate(20)");
        x.due(0, "score(1) score(2)");
        // Inputs of one gate are none of the next gate's.
        x.taken(6, "link(2, 0, 1)");
        x.taken("gate(0)");
        x.due(0, "score(3)");
        x.taken(6, "link(3, 0, 1)");
        x.due(6, "score(3)");
    }

    private static void thresholdOutOfRange() {
        Calls x = new Calls(2);
        x.due(-1, "gate(-21) gate(21) gate(MIN) gate(MAX)");
        x.due(0, "gate(-20)");
        x.due(1, "gate(20)");
        x.due(2, "gate(0)");
    }

    private static void gateWhenFull() {
        Calls x = withGates(23);
        x.due(23, "gate(0)");
        x.due(-2, "gate(0) gate(-20) gate(20)");
    }

    private static void gateIsNumbered() {
        Calls x = new Calls(2);
        for (int node = 0; node < 24; node++) x.due(node, "gate(" + (node - 12) + ")");
    }

    private static void linkAddsAnInput() {
        Calls x = new Calls(2);
        x.taken("after(0) after(1) gate(0)");
        int[] weights = {5, -5, 1, -1, 3};
        int sum = 0;
        for (int weight : weights) {
            x.due(0, "link(2, 0, " + weight + ")");
            sum += weight;
            x.due(sum, "score(2)");
        }
        x.due(0, "link(2, 1, 4)");
        x.due(3, "score(2)");
        x.taken("advance(1)");
        x.due(7, "score(2)");
    }

    private static void linkToNoGate() {
        Calls x = new Calls(2);
        x.due(-1, "link(0, 0, 1) link(-1, 0, 1)");
        x.taken("signer(0) after(0) window(2, 1) gate(0)");
        x.due(-1, "link(-1, 0, 1) link(0, 0, 1) link(1, 0, 1) link(2, 0, 1) link(4, 0, 1) link(24, 0, 1)");
        x.due(-1, "link(MIN, 0, 1) link(MAX, 0, 1)");
        x.due(0, "link(3, 0, 1)");
    }

    private static void linkOfNoEarlierNode() {
        Calls x = withGates(24);
        x.due(-2, "link(5, -1, 1) link(5, 5, 1) link(5, 6, 1) link(5, 23, 1) link(5, 24, 1) link(5, MIN, 1) link(5, MAX, 1)");
        x.due(0, "link(5, 0, 1) link(5, 4, 1)");
        x.due(-2, "link(23, 23, 1) link(23, 24, 1)");
        x.due(0, "link(23, 0, 1) link(23, 22, 1)");
    }

    private static void nodeZeroHasNoEarlierNode() {
        Calls x = withGates(2);
        x.due(-2, "link(0, -1, 1) link(0, 0, 1) link(0, 1, 1)");
        x.due(0, "link(1, 0, 1)");
    }

    private static void linkWithWeightZero() {
        Calls x = withGates(2);
        x.due(-3, "link(1, 0, 0)");
        x.due(0, "link(1, 0, 1) link(1, 0, -1)");
    }

    private static void linkWithWeightOutOfRange() {
        Calls x = withGates(2);
        x.due(-3, "link(1, 0, -6) link(1, 0, 6) link(1, 0, MIN) link(1, 0, MAX)");
        x.due(0, "link(1, 0, -5) link(1, 0, 5)");
    }

    private static void linkToFullGate() {
        Calls x = withGates(3);
        x.taken(5, "link(2, 0, 1)");
        x.due(0, "link(2, 1, -1)");
        x.due(-4, "link(2, 0, 1) link(2, 1, 5)");
        x.due(0, "link(1, 0, 1)");
    }

    private static void everyGateHasRoomForSix() {
        Calls x = withGates(24);
        for (int gate = 1; gate < 24; gate++) {
            for (int i = 0; i < 6; i++) x.due(0, "link(" + gate + ", " + (gate - 1) + ", 1)");
            x.due(-4, "link(" + gate + ", 0, 1)");
        }
    }

    private static Calls withDealsUnderGates() {
        Calls x = new Calls(2);
        x.taken("after(0) gate(1) gate(1) offer(0, 1, 5) offer(1, 0, 5) terms(0, 1, 2) terms(1, 2, 2) deposit(0, 5)");
        return x;
    }

    private static void linkSettles() {
        Calls x = withDealsUnderGates();
        x.due(ConditionEscrow.HELD, "state(0)");
        x.taken("link(1, 0, 1)");
        x.due(ConditionEscrow.RELEASED, "state(0)");
        x.due(ConditionEscrow.HELD, "state(1)");
    }

    private static void linkCountsMoves() {
        Calls x = withDealsUnderGates();
        x.due(0, "link(1, 0, -1)");
        x.due(2, "link(1, 0, 2)");
        x.due(1, "link(2, 1, 1)");
        x.due(0, "link(2, 1, 1)");
    }

    private static void markOnForAnyNumberButZero() {
        int[] ons = {1, 2, -1, 256, 65536, Integer.MIN_VALUE, Integer.MAX_VALUE};
        for (int on : ons) {
            Calls x = new Calls(2);
            x.taken("signer(0) signer(6) signer(7)");
            x.due(0, "mark(7, " + on + ")");
            x.due(1, "truth(2)");
            x.due(0, "truth(0) truth(1)");
            x.due(0, "mark(0, " + on + ")");
            x.due(1, "truth(0) truth(2)");
        }
    }

    private static void markOffForZero() {
        Calls x = new Calls(2);
        x.taken("signer(0) signer(7) mark(0, 1) mark(7, -1)");
        x.due(0, "mark(7, 0)");
        x.due(0, "truth(1)");
        x.due(1, "truth(0)");
        x.due(0, "mark(0, 0)");
        x.due(0, "truth(0)");
    }

    private static void markSettles() {
        Calls x = new Calls(2);
        x.taken("signer(3) gate(0) link(1, 0, -1) gate(1) offer(0, 1, 5) terms(0, 0, 2) deposit(0, 5) mark(3, 1)");
        x.due(ConditionEscrow.RELEASED, "state(0)");
        // Turning a mark off may make a gate true.
        x.taken("offer(1, 0, 5) terms(1, 1, 2)");
        x.due(ConditionEscrow.HELD, "state(1)");
        x.taken("mark(3, 0)");
        x.due(ConditionEscrow.RELEASED, "state(1)");
    }

    private static void markOutOfRange() {
        Calls x = new Calls(2);
        x.taken("signer(0) signer(7)");
        x.due(-1, "mark(-1, 1) mark(8, 1) mark(8, 0) mark(MIN, 1) mark(MAX, 1)");
        x.due(0, "truth(0) truth(1) mark(0, 1) mark(7, 1)");
        x.due(1, "truth(0) truth(1)");
    }

    private static Calls withHeldDealsOfSigner3() {
        Calls x = new Calls(2);
        x.taken("signer(3) gate(1) offer(0, 1, 5) offer(0, 1, 6) terms(0, 0, 1) terms(1, 0, 1) deposit(0, 11)");
        return x;
    }

    private static void markCountsMoves() {
        Calls x = withHeldDealsOfSigner3();
        x.due(0, "mark(4, 1)");
        x.due(2, "mark(3, 1)");
        x.due(0, "mark(3, 0)");
    }

    private static void markThatWasSoAlready() {
        Calls x = withHeldDealsOfSigner3();
        x.due(0, "mark(3, 0)");
        x.due(11, "held()");
        x.taken("mark(3, 1)");
        x.due(0, "mark(3, 1) mark(3, -1) mark(3, MAX)");
        x.due(1, "truth(0)");
    }

    private static void nodesFromNoneToFull() {
        String[] makers = {"signer(0)", "after(9)", "window(2, 1)", "gate(1)"};
        Calls x = new Calls(2);
        for (int count = 0; count < 24; count++) {
            x.due(count, "nodes()");
            x.taken(makers[count % 4]);
        }
        x.due(24, "nodes()");
        x.taken("link(3, 0, 1) offer(0, 1, 1) mark(0, 1)");
        x.due(24, "nodes()");
    }

    private static void truthOfEveryKind() {
        Calls x = new Calls(2);
        x.taken("signer(0) after(2) window(2, 1) gate(1) link(3, 0, 1)");
        x.due(0, "truth(0) truth(1) truth(3)");
        x.due(1, "truth(2)");
        x.taken("mark(0, 1) advance(1)");
        x.due(1, "truth(0) truth(3)");
        x.due(0, "truth(1) truth(2)");
        x.taken("mark(0, 0) advance(1)");
        x.due(0, "truth(0) truth(3)");
        x.due(1, "truth(1) truth(2)");
    }

    private static void truthOfNoNode() {
        Calls x = new Calls(2);
        x.due(-1, "truth(0) truth(-1)");
        x.taken("after(0)");
        x.due(1, "truth(0)");
        // 32 and -32 are 0 to a shift.
        x.due(-1, "truth(-1) truth(1) truth(23) truth(24) truth(31) truth(32) truth(-32) truth(MIN) truth(MAX)");
    }

    private static void truthOfNoNodeWhenFull() {
        Calls x = new Calls(2);
        x.taken(24, "after(0)");
        x.due(1, "truth(0) truth(23)");
        x.due(-1, "truth(-1) truth(24) truth(32) truth(55) truth(MIN) truth(MAX)");
    }

    private static void scoreFollowsTheInputs() {
        Calls x = new Calls(2);
        x.taken("signer(0) after(0) window(2, 1) gate(3) link(3, 0, 2) link(3, 1, 1) link(3, 2, 1)");
        x.due(2, "score(3)");
        x.taken("mark(0, 1)");
        x.due(4, "score(3)");
        x.taken("advance(1)");
        x.due(3, "score(3)");
        x.taken("mark(0, 0)");
        x.due(1, "score(3)");
    }

    private static void scoreReachesBothEnds() {
        Calls x = new Calls(2);
        x.taken("after(0) gate(20) gate(-20)");
        x.taken(6, "link(1, 0, 5) link(2, 0, -5)");
        x.due(30, "score(1)");
        x.due(-30, "score(2)");
    }

    private static void scoresOfFullGatesAreApart() {
        Calls x = new Calls(2);
        x.taken("after(0)");
        x.taken(23, "gate(0)");
        for (int gate = 1; gate < 24; gate++) x.taken(6, "link(" + gate + ", 0, " + (gate % 5 + 1) + ")");
        for (int gate = 1; gate < 24; gate++) x.due(6 * (gate % 5 + 1), "score(" + gate + ")");
    }

    private static void scoreOfNoGate() {
        Calls x = new Calls(2);
        x.due(-1000, "score(0) score(-1)");
        x.taken("signer(0) after(0) window(2, 1) gate(3)");
        x.due(-1000, "score(-1) score(0) score(1) score(2) score(4) score(24) score(MIN) score(MAX)");
        x.due(0, "score(3)");
    }
}
