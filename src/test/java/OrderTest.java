/**
 * "In every method the tests are made in the order named.": a call that two tests would refuse gets the answer of the
 * first of them. Every two tests of a method that one call can fail together are here.
 */
public final class OrderTest {
    private static final String ORDER = "In every method the tests are made in the order named";

    public static void main(String[] args) {
        Checks.promise(2, ORDER, OrderTest::signer);
        Checks.promise(3, ORDER, OrderTest::after);
        Checks.promise(4, ORDER, OrderTest::windowPeriodBeforeOpen);
        Checks.promise(4, ORDER, OrderTest::windowPeriodBeforeFull);
        Checks.promise(4, ORDER, OrderTest::windowOpenBeforeFull);
        Checks.promise(5, ORDER, OrderTest::gate);
        Checks.promise(6, ORDER, OrderTest::linkGateBeforeNode);
        Checks.promise(6, ORDER, OrderTest::linkGateBeforeWeight);
        Checks.promise(6, ORDER, OrderTest::linkNodeBeforeWeight);
        Checks.promise(6, ORDER, OrderTest::linkNodeBeforeFull);
        Checks.promise(6, ORDER, OrderTest::linkWeightBeforeFull);
        Checks.promise(8, ORDER, OrderTest::depositAccountBeforeAmount);
        Checks.promise(8, ORDER, OrderTest::depositAccountBeforeFull);
        Checks.promise(8, ORDER, OrderTest::depositAmountBeforeFull);
        Checks.promise(9, ORDER, OrderTest::offerAccountsBeforeTheSame);
        Checks.promise(9, ORDER, OrderTest::offerAccountsBeforeAmount);
        Checks.promise(9, ORDER, OrderTest::offerAccountsBeforeFull);
        Checks.promise(9, ORDER, OrderTest::offerTheSameBeforeAmount);
        Checks.promise(9, ORDER, OrderTest::offerTheSameBeforeFull);
        Checks.promise(9, ORDER, OrderTest::offerAmountBeforeFull);
        Checks.promise(10, ORDER, OrderTest::termsDealBeforeNodes);
        Checks.promise(10, ORDER, OrderTest::termsStateBeforeNodes);
        Checks.promise(12, ORDER, OrderTest::advanceDaysBeforeLastDay);
        Checks.promise(28, ORDER, OrderTest::lowestAccountBeforeRange);
        Checks.end();
    }

    private static Calls middle() {
        return States.middle(new ConditionEscrow(States.ACCOUNTS));
    }

    private static Calls full() {
        return States.full(new ConditionEscrow(States.ACCOUNTS));
    }

    private static void signer() {
        Calls x = full();
        x.due(-1, "signer(-1) signer(8) signer(MIN) signer(MAX)");
        x.due(-2, "signer(0)");
    }

    private static void after() {
        Calls x = full();
        x.due(-1, "after(-1) after(1001) after(MIN) after(MAX)");
        x.due(-2, "after(0)");
    }

    private static void windowPeriodBeforeOpen() {
        middle().due(-1, "window(1, 0) window(1, 1) window(0, 0) window(21, 0) window(21, 21) window(MIN, MIN) window(MAX, MAX)");
    }

    private static void windowPeriodBeforeFull() {
        Calls x = full();
        x.due(-1, "window(1, 1) window(21, 1) window(MIN, 1) window(MAX, 1) window(1, 0) window(21, 21)");
        x.due(-3, "window(2, 1)");
    }

    private static void windowOpenBeforeFull() {
        Calls x = full();
        x.due(-2, "window(2, 0) window(2, 2) window(20, 20) window(20, MIN) window(20, MAX)");
        x.due(-3, "window(20, 19)");
    }

    private static void gate() {
        Calls x = full();
        x.due(-1, "gate(-21) gate(21) gate(MIN) gate(MAX)");
        x.due(-2, "gate(0)");
    }

    private static void linkGateBeforeNode() {
        middle().due(-1, "link(-1, -1, 1) link(0, 0, 1) link(2, 2, 1) link(7, 7, 1) link(MAX, MAX, 1) link(MIN, MIN, 1)");
    }

    private static void linkGateBeforeWeight() {
        middle().due(-1, "link(-1, 0, 0) link(2, 0, 6) link(7, 0, -6) link(2, 0, MIN) link(5, 5, 0)");
    }

    private static void linkNodeBeforeWeight() {
        middle().due(-2, "link(6, 6, 0) link(6, -1, 6) link(6, 7, -6) link(1, 1, MAX)");
    }

    private static void linkNodeBeforeFull() {
        Calls x = full();
        x.due(-2, "link(6, 6, 1) link(6, -1, 1) link(6, 7, 1) link(23, 23, 1) link(23, 24, 1) link(6, 6, 0)");
        x.due(-4, "link(6, 5, 1)");
    }

    private static void linkWeightBeforeFull() {
        Calls x = full();
        x.due(-3, "link(6, 0, 0) link(6, 0, 6) link(23, 22, -6) link(23, 22, MIN)");
        x.due(-4, "link(23, 22, 1)");
    }

    private static void depositAccountBeforeAmount() {
        middle().due(-1, "deposit(-1, 0) deposit(3, 1001) deposit(MIN, MIN) deposit(MAX, MAX)");
    }

    private static void depositAccountBeforeFull() {
        Calls x = full();
        x.due(-1, "deposit(-1, 5) deposit(3, 5) deposit(MAX, 5) deposit(3, 0)");
        x.due(-3, "deposit(2, 5)");
    }

    private static void depositAmountBeforeFull() {
        Calls x = full();
        x.due(-2, "deposit(0, 0) deposit(0, 1001) deposit(0, MIN)");
        x.due(-3, "deposit(0, 1)");
    }

    private static void offerAccountsBeforeTheSame() {
        middle().due(-1, "offer(-1, -1, 5) offer(3, 3, 5) offer(MIN, MIN, 5) offer(MAX, MAX, 5)");
    }

    private static void offerAccountsBeforeAmount() {
        middle().due(-1, "offer(-1, 0, 0) offer(0, 3, 1001) offer(3, 0, MIN) offer(3, 3, 0)");
    }

    private static void offerAccountsBeforeFull() {
        Calls x = full();
        x.due(-1, "offer(-1, 0, 5) offer(0, 3, 5) offer(3, 0, 5) offer(3, 3, 0)");
        x.due(-4, "offer(0, 2, 5)");
    }

    private static void offerTheSameBeforeAmount() {
        middle().due(-2, "offer(0, 0, 0) offer(1, 1, 1001) offer(2, 2, MIN)");
    }

    private static void offerTheSameBeforeFull() {
        Calls x = full();
        x.due(-2, "offer(0, 0, 5) offer(2, 2, 5) offer(1, 1, 0)");
        x.due(-4, "offer(1, 2, 5)");
    }

    private static void offerAmountBeforeFull() {
        Calls x = full();
        x.due(-3, "offer(0, 1, 0) offer(0, 1, 1001) offer(0, 1, MAX)");
        x.due(-4, "offer(0, 1, 1000)");
    }

    private static void termsDealBeforeNodes() {
        middle().due(-1, "terms(-1, -1, 0) terms(6, 0, 7) terms(MIN, MIN, MIN) terms(MAX, MAX, MAX)");
    }

    private static void termsStateBeforeNodes() {
        Calls x = middle();
        for (int deal = 1; deal < 6; deal++) x.due(-2, "terms(D, -1, 0) terms(D, 0, 7) terms(D, MAX, MIN)".replace("D", "" + deal));
        x.due(-3, "terms(0, -1, 0)");
    }

    private static void advanceDaysBeforeLastDay() {
        Calls x = full();
        x.due(-1, "advance(61) advance(2000) advance(MAX)");
        x.due(-2, "advance(16) advance(60)");
    }

    private static void lowestAccountBeforeRange() {
        middle().due(-1, "lowest(-1, 1, 0) lowest(3, -1, 0) lowest(3, 0, 65) lowest(MIN, MIN, MAX) lowest(MAX, MAX, MIN)");
    }
}
