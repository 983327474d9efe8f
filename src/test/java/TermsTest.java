/** The document's sections "What it is" and "Terms", sentence by sentence: what the promises are built on. */
public final class TermsTest {
    private static final int DRAFT = ConditionEscrow.DRAFT;
    private static final int WAITING = ConditionEscrow.WAITING;
    private static final int HELD = ConditionEscrow.HELD;
    private static final int RELEASED = ConditionEscrow.RELEASED;
    private static final int REFUNDED = ConditionEscrow.REFUNDED;
    private static final int CANCELLED = ConditionEscrow.CANCELLED;

    private static final int DEPOSIT = ConditionEscrow.DEPOSIT;
    private static final int FUND = ConditionEscrow.FUND;
    private static final int RELEASE = ConditionEscrow.RELEASE;
    private static final int REFUND = ConditionEscrow.REFUND;

    public static void main(String[] args) {
        Checks.sentence("What it is", "An object is used for at most 512 calls", TermsTest::call512OfManyMarks);
        Checks.sentence("What it is", "An object is used for at most 512 calls", TermsTest::call512OfManyQuestions);
        Checks.sentence("What it is", "An object is used for at most 512 calls", TermsTest::call512OfManyRefusals);
        Checks.sentence("Terms", "ACCOUNTS are numbered 0 .. accounts-1", TermsTest::accountsAreNumbered);
        Checks.sentence("Terms", "every balance is 0 at first", TermsTest::balancesAreZeroAtFirst);
        Checks.sentence("Terms", "and never negative", TermsTest::balancesAreNeverNegative);
        Checks.sentence("Terms", "numbered 0, 1, 2, .. in the order in which they are made", TermsTest::nodesAreNumbered);
        Checks.sentence("Terms", "at most 24 of them", TermsTest::nodesEndAt24);
        Checks.sentence("Terms", "true while the mark of signer s is on", TermsTest::signerNodesFollowTheMark);
        Checks.sentence("Terms", "(all marks are off at first)", TermsTest::marksAreOffAtFirst);
        Checks.sentence("Terms", "true if today >= that day", TermsTest::afterNodesFromTheirDayOn);
        Checks.sentence("Terms", "true if the remainder of today by period is less than open", TermsTest::windowsOverManyPeriods);
        Checks.sentence("Terms", "true if the remainder of today by period is less than open", TermsTest::windowsOnTheLastDays);
        Checks.sentence("Terms", "has at most 6 inputs", TermsTest::inputsEndAtSix);
        Checks.sentence("Terms", "each an earlier node with a weight", TermsTest::inputsAreEarlierNodes);
        Checks.sentence("Terms", "(the same node may be an input several times)", TermsTest::sameInputSeveralTimes);
        Checks.sentence("Terms", "score is the sum of the weights of those inputs that are true", TermsTest::scoreOfEveryMix);
        Checks.sentence("Terms", "(0 without any)", TermsTest::scoreWithoutTrueInputs);
        Checks.sentence("Terms", "it is true if its score >= its threshold", TermsTest::gatesAroundTheirThreshold);
        Checks.sentence("Terms", "it is true if its score >= its threshold", TermsTest::gatesOverGates);
        Checks.sentence("Terms", "DEALS are numbered 0, 1, 2, .. in the order in which they are made", TermsTest::dealsAreNumbered);
        Checks.sentence("Terms", "at most 12 of them", TermsTest::dealsEndAt12);
        Checks.sentence("Terms", "it is WAITING and the payer's balance >= its amount", TermsTest::fundingAroundTheAmount);
        Checks.sentence("Terms", "the amount leaves the payer's balance, the deal becomes HELD (entry FUND)", TermsTest::moveFund);
        Checks.sentence("Terms", "it is HELD and its release node is true", TermsTest::moveRelease);
        Checks.sentence("Terms", "it is HELD and its release node is true", TermsTest::releaseThoughRefundIsTrueToo);
        Checks.sentence("Terms", "it is HELD, its release node is false and its refund node is true", TermsTest::moveRefund);
        Checks.sentence("Terms", "A deal CAN MOVE in these cases", TermsTest::heldStaysWhileBothAreFalse);
        Checks.sentence("Terms", "A deal CAN MOVE in these cases", TermsTest::otherStatesNeverMove);
        Checks.sentence("Terms", "as long as some deal can move", TermsTest::noDealCanMove);
        Checks.sentence("Terms", "as long as some deal can move", TermsTest::all24MovesInOneSettling);
        Checks.sentence("Terms", "the one with the lowest number among those that can makes its one move", TermsTest::lowestNumberFirst);
        Checks.sentence("Terms", "a deal may move twice in one settling", TermsTest::twiceInOneSettling);
        Checks.sentence("Terms", "a move may enable others, with lower", TermsTest::enablesLowerNumbers);
        Checks.sentence("Terms", "or higher numbers", TermsTest::enablesHigherNumbers);
        Checks.sentence("Terms", "ENTRIES are numbered 0, 1, 2, .. in the order in which they arise", TermsTest::entriesInOrder);
        Checks.sentence("Terms", "one for every accepted deposit", TermsTest::entryForAcceptedDeposits);
        Checks.sentence("Terms", "one for every move", TermsTest::entryForEveryMove);
        Checks.sentence("Terms", "An entry has the amount (always positive)", TermsTest::amountsArePositive);
        Checks.sentence("Terms", "the deal's number (-1 for a deposit)", TermsTest::entriesNameTheirDeal);
        Checks.sentence("Terms", "the day on which it arose", TermsTest::entriesKeepTheirDay);
        Checks.sentence("Terms", "There are at most 64", TermsTest::entriesEndAt64);
        Checks.sentence("Terms", "Today is day 0 at first", TermsTest::firstDayIsZero);
        Checks.end();
    }

    private static void call512OfManyMarks() {
        Calls x = new Calls(2);
        x.taken("signer(0) gate(1) offer(0, 1, 5) terms(0, 0, 1)");
        while (x.made() < 510) x.due(0, "mark(1, " + x.made() % 2 + ")");
        x.due(1, "deposit(0, 5)");
        x.due(1, "mark(0, 1)");
        Checks.due("calls made", x.made(), Calls.MOST_CALLS);
    }

    private static void call512OfManyQuestions() {
        Calls x = new Calls(2);
        x.taken("after(3) offer(0, 1, 5) terms(0, 0, 0) deposit(0, 7)");
        while (x.made() < 506) x.due(3, "forecast(0)");
        x.due(1, "advance(60)");
        x.due(60, "today()");
        x.due(RELEASED, "state(0)");
        x.due(2, "balance(0) balanceOn(0, 0)");
        x.due(5, "balance(1)");
        Checks.due("calls made", x.made(), Calls.MOST_CALLS);
    }

    private static void call512OfManyRefusals() {
        Calls x = new Calls(2);
        x.taken(40, "deposit(0, 1)");
        while (x.made() < 510) x.due(-3, "deposit(0, 1)");
        x.due(40, "balance(0) entries()");
        Checks.due("calls made", x.made(), Calls.MOST_CALLS);
    }

    private static void accountsAreNumbered() {
        for (int accounts = 2; accounts <= 6; accounts++) {
            int last = accounts - 1;
            Calls x = new Calls(accounts);
            x.due(0, "balance(0) balance(" + last + ") balanceOn(" + last + ", 0) lowest(" + last + ", 0, 0)");
            x.due(0, "deposit(0, 1) deposit(" + last + ", 1)");
            x.due(0, "offer(0, " + last + ", 1)");
            x.due(1, "offer(" + last + ", 0, 1)");
            x.due(-1, "balance(-1) balanceOn(-1, 0) lowest(-1, 0, 0) deposit(-1, 1) offer(0, -1, 1) offer(-1, 0, 1)");
            String pastTheLast = "balance(N) balanceOn(N, 0) lowest(N, 0, 0) deposit(N, 1) offer(0, N, 1) offer(N, 0, 1)";
            x.due(-1, pastTheLast.replace("N", "" + accounts));
        }
    }

    private static void balancesAreZeroAtFirst() {
        Calls x = new Calls(6);
        for (int account = 0; account < 6; account++) x.due(0, "balance(" + account + ")");
    }

    private static void balancesAreNeverNegative() {
        Calls x = new Calls(2);
        x.taken("gate(1) offer(0, 1, 10) offer(0, 1, 1) offer(0, 1, 1)");
        for (int deal = 0; deal < 3; deal++) x.taken("terms(" + deal + ", 0, 0)");
        x.due(1, "deposit(0, 10)");
        x.due(0, "balance(0)");
        x.due(WAITING, "state(1) state(2)");
        x.due(1, "deposit(0, 1)");
        x.due(0, "balance(0) lowest(0, 0, 4)");
        x.due(WAITING, "state(2)");
        x.taken("offer(1, 0, 10) terms(3, 0, 0) deposit(1, 9)");
        x.due(9, "balance(1)");
        x.due(0, "lowest(1, 0, 5)");
    }

    private static void nodesAreNumbered() {
        Calls x = new Calls(2);
        x.due(0, "gate(1)");
        x.due(1, "signer(3)");
        x.due(2, "window(5, 2)");
        x.due(-1, "signer(8) after(1001) window(1, 1) gate(21)");
        x.due(3, "after(7)");
        x.due(4, "gate(-1)");
        x.due(5, "signer(3)");
    }

    private static void nodesEndAt24() {
        String[] makers = {"signer(1)", "after(0)", "window(3, 1)", "gate(1)"};
        Calls x = new Calls(2);
        for (int node = 0; node < 24; node++) x.due(node, makers[node % 4]);
        x.due(-2, "signer(1) after(0) gate(1)");
        x.due(-3, "window(3, 1)");
        x.due(24, "nodes()");
        x.due(-1, "truth(24)");
        x.due(0, "truth(23) link(23, 22, 1)");
        x.due(1, "truth(23)");
    }

    private static void signerNodesFollowTheMark() {
        Calls x = new Calls(2);
        x.taken("signer(0) signer(7) signer(7) mark(7, 1)");
        x.due(0, "truth(0)");
        x.due(1, "truth(1) truth(2)");
        x.due(3, "signer(7)");
        x.due(1, "truth(3)");
        x.taken("advance(60)");
        x.due(1, "truth(1) truth(2) truth(3)");
        x.taken("mark(7, 0)");
        x.due(0, "truth(1) truth(2) truth(3)");
        x.taken("mark(7, 1)");
        x.due(1, "truth(1) truth(2) truth(3)");
    }

    private static void marksAreOffAtFirst() {
        Calls x = new Calls(2);
        for (int s = 0; s < 8; s++) x.taken("signer(" + s + ")");
        for (int node = 0; node < 8; node++) x.due(0, "truth(" + node + ")");
    }

    private static void afterNodesFromTheirDayOn() {
        int[] days = {1, 2, 60, 61, 999, 1000};
        Calls x = new Calls(2);
        x.taken("after(0)");
        x.due(1, "truth(0)");
        for (int node = 1; node <= days.length; node++) {
            x.taken("after(" + days[node - 1] + ")");
            x.untilDay(days[node - 1] - 1);
            x.due(0, "truth(" + node + ")");
            x.taken("advance(1)");
            x.due(1, "truth(" + node + ")");
        }
        x.untilDay(2000);
        for (int node = 0; node <= days.length; node++) x.due(1, "truth(" + node + ")");
    }

    private static void windowsOverManyPeriods() {
        Calls x = new Calls(2);
        x.taken("window(7, 3) window(2, 1) window(20, 19) window(20, 1) window(3, 2)");
        for (int day = 0; day <= 62; day++) {
            x.due(day % 7 <= 2 ? 1 : 0, "truth(0)");
            x.due(day % 2 == 0 ? 1 : 0, "truth(1)");
            x.due(day % 20 == 19 ? 0 : 1, "truth(2)");
            x.due(day % 20 == 0 ? 1 : 0, "truth(3)");
            x.due(day % 3 == 2 ? 0 : 1, "truth(4)");
            x.taken("advance(1)");
        }
    }

    private static void windowsOnTheLastDays() {
        Calls x = new Calls(2);
        x.taken("window(20, 1) window(20, 19) window(19, 5) window(7, 4) window(7, 5)");
        x.untilDay(1999);
        // 1999 is 99 * 20 + 19, and 105 * 19 + 4, and 285 * 7 + 4.
        x.due(0, "truth(0) truth(1) truth(3)");
        x.due(1, "truth(2) truth(4)");
        x.taken("advance(1)");
        x.due(1, "truth(0) truth(1)");
        x.due(0, "truth(2) truth(3) truth(4)");
    }

    private static void inputsEndAtSix() {
        Calls x = new Calls(2);
        x.taken("after(0) gate(0)");
        for (int count = 0; count < 6; count++) {
            x.due(count, "score(1)");
            x.due(0, "link(1, 0, 1)");
        }
        x.due(6, "score(1)");
        x.due(-4, "link(1, 0, 1)");
        x.due(6, "score(1)");
    }

    private static void inputsAreEarlierNodes() {
        Calls x = new Calls(2);
        x.taken("gate(0) gate(0) gate(0)");
        x.due(-2, "link(1, 1, 1) link(1, 2, 1) link(0, 1, 1) link(0, 0, 1)");
        x.due(0, "link(1, 0, 1) link(2, 0, 1) link(2, 1, 1)");
        x.due(2, "score(2)");
    }

    private static void sameInputSeveralTimes() {
        Calls x = new Calls(2);
        x.taken("after(0) gate(6)");
        x.taken(4, "link(1, 0, 1)");
        x.taken("link(1, 0, -2) link(1, 0, 4)");
        x.due(6, "score(1)");
        x.due(1, "truth(1)");
    }

    private static void scoreOfEveryMix() {
        int[] weights = {1, -2, 3, -4, 5, -5};
        Calls x = new Calls(2);
        for (int s = 0; s < 6; s++) x.taken("signer(" + s + ")");
        x.taken("gate(0)");
        for (int s = 0; s < 6; s++) x.taken("link(6, " + s + ", " + weights[s] + ")");
        // Each mix differs from the one before it in one mark, so that all 64 take few calls.
        int mix = 0;
        for (int step = 1; step <= 64; step++) {
            int sum = 0;
            for (int s = 0; s < 6; s++) sum += (mix >> s & 1) * weights[s];
            x.due(sum, "score(6)");
            int changed = Math.min(5, Integer.numberOfTrailingZeros(step));
            mix ^= 1 << changed;
            x.taken("mark(" + changed + ", " + (mix >> changed & 1) + ")");
        }
    }

    private static void scoreWithoutTrueInputs() {
        Calls x = new Calls(2);
        x.taken("after(5) gate(0) gate(1)");
        x.due(0, "score(1) score(2)");
        x.due(1, "truth(1)");
        x.due(0, "truth(2)");
        x.taken("link(1, 0, -3) link(2, 0, 3)");
        x.due(0, "score(1) score(2)");
        x.due(1, "truth(1)");
        x.due(0, "truth(2)");
    }

    private static void gatesAroundTheirThreshold() {
        for (int threshold = -20; threshold <= 20; threshold++) {
            Calls x = new Calls(2);
            x.taken("after(0) signer(0) signer(1) gate(" + threshold + ") link(3, 1, -1) link(3, 2, 1)");
            int left = threshold;
            while (left != 0) {
                int weight = Math.max(-5, Math.min(5, left));
                x.taken("link(3, 0, " + weight + ")");
                left -= weight;
            }
            x.due(threshold, "score(3)");
            x.due(1, "truth(3)");
            x.taken("mark(0, 1)");
            x.due(threshold - 1, "score(3)");
            x.due(0, "truth(3)");
            x.taken("mark(0, 0) mark(1, 1)");
            x.due(threshold + 1, "score(3)");
            x.due(1, "truth(3)");
        }
    }

    private static void gatesOverGates() {
        Calls x = new Calls(2);
        x.taken("signer(0)");
        // Each gate turns the one before it round.
        for (int gate = 1; gate < 24; gate++) x.taken("gate(0) link(" + gate + ", " + (gate - 1) + ", -1)");
        for (int on = 0; on < 2; on++) {
            x.taken("mark(0, " + on + ")");
            for (int gate = 1; gate < 24; gate++) x.due((gate + on) % 2, "truth(" + gate + ")");
        }
    }

    private static void dealsAreNumbered() {
        Calls x = new Calls(3);
        x.due(0, "offer(0, 1, 5)");
        x.due(-1, "offer(0, 3, 5)");
        x.due(-2, "offer(1, 1, 5)");
        x.due(-3, "offer(0, 1, 0)");
        x.due(1, "offer(2, 1, 5)");
        x.taken("cancel(1)");
        x.due(2, "offer(1, 0, 5)");
    }

    private static void dealsEndAt12() {
        Calls x = new Calls(2);
        x.taken("after(0) deposit(0, 10)");
        for (int deal = 0; deal < 12; deal++) x.due(deal, "offer(0, 1, 10)");
        x.due(-4, "offer(0, 1, 10)");
        x.due(-1, "state(12) terms(12, 0, 0) cancel(12) forecast(12)");
        x.due(2, "terms(11, 0, 0)");
        x.due(-4, "offer(0, 1, 10)");
        x.due(12, "deals()");
    }

    private static void fundingAroundTheAmount() {
        int[] amounts = {1, 2, 10, 999, 1000};
        for (int amount : amounts) {
            for (int over = -1; over <= 1; over++) {
                Calls x = new Calls(2);
                x.taken("gate(1) offer(0, 1, " + amount + ") terms(0, 0, 0) deposit(1, 1000)");
                if (amount + over > 1000) x.taken("deposit(0, 1)");
                int rest = Math.min(1000, amount + over);
                if (rest > 0) x.taken("deposit(0, " + rest + ")");
                x.due(over < 0 ? WAITING : HELD, "state(0)");
                x.due(over < 0 ? amount - 1 : over, "balance(0)");
            }
        }
    }

    private static void moveFund() {
        Calls x = new Calls(2);
        x.taken("gate(1) offer(1, 0, 7) deposit(1, 10)");
        x.due(1, "terms(0, 0, 0)");
        x.due(HELD, "state(0)");
        x.due(3, "balance(1)");
        x.due(0, "balance(0)");
        x.due(7, "held()");
        x.due(FUND, "entryKind(1)");
        x.due(1, "entryAccount(1)");
    }

    private static void moveRelease() {
        Calls x = new Calls(2);
        x.taken("signer(0) gate(1) offer(1, 0, 7) deposit(1, 10) terms(0, 0, 1)");
        x.due(1, "mark(0, 1)");
        x.due(RELEASED, "state(0)");
        x.due(3, "balance(1)");
        x.due(7, "balance(0)");
        x.due(0, "held() entryAccount(2)");
        x.due(RELEASE, "entryKind(2)");
    }

    private static void releaseThoughRefundIsTrueToo() {
        Calls x = new Calls(2);
        x.taken("after(1) after(1) offer(0, 1, 7) deposit(0, 7) terms(0, 0, 1)");
        x.due(1, "advance(1)");
        x.due(RELEASED, "state(0)");
        x.due(7, "balance(1)");
        x.due(RELEASE, "entryKind(2)");
    }

    private static void moveRefund() {
        Calls x = new Calls(2);
        x.taken("gate(1) signer(0) offer(1, 0, 7) deposit(1, 10) terms(0, 0, 1)");
        x.due(1, "mark(0, 1)");
        x.due(REFUNDED, "state(0)");
        x.due(10, "balance(1)");
        x.due(0, "balance(0) held()");
        x.due(REFUND, "entryKind(2)");
        x.due(1, "entryAccount(2)");
    }

    private static void heldStaysWhileBothAreFalse() {
        Calls x = new Calls(2);
        x.taken("gate(1) signer(0) offer(0, 1, 7) deposit(0, 20) terms(0, 0, 1)");
        x.due(0, "advance(60) mark(1, 1) deposit(0, 7)");
        x.due(HELD, "state(0)");
        x.due(20, "balance(0)");
    }

    private static void otherStatesNeverMove() {
        Calls x = new Calls(2);
        x.taken("signer(0) gate(1) gate(0)");
        x.taken(5, "offer(0, 1, 5)");
        x.taken("terms(1, 0, 1) cancel(1) cancel(2) deposit(0, 5) terms(3, 1, 2) terms(4, 2, 1) deposit(0, 50)");
        int[] states = {DRAFT, CANCELLED, CANCELLED, REFUNDED, RELEASED};
        x.due(0, "mark(0, 1) advance(5) deposit(0, 50) link(2, 0, 1) link(1, 0, 1) mark(0, 0)");
        for (int deal = 0; deal < states.length; deal++) x.due(states[deal], "state(" + deal + ")");
        x.due(100, "balance(0)");
        x.due(5, "balance(1)");
    }

    private static void noDealCanMove() {
        Calls x = new Calls(2);
        x.taken("signer(0) gate(1)");
        x.due(0, "link(1, 0, 1) mark(0, 1) deposit(0, 5) advance(1)");
        x.taken("offer(1, 0, 5)");
        x.due(0, "terms(0, 0, 0) mark(0, 0) advance(60)");
        x.due(1, "entries()");
    }

    private static void all24MovesInOneSettling() {
        Calls x = new Calls(2);
        x.taken("after(0)");
        // One sum goes to and fro: every deal waits for the one before it.
        for (int deal = 0; deal < 12; deal++) {
            x.taken("offer(" + deal % 2 + ", " + (1 - deal % 2) + ", 1000)");
            x.taken("terms(" + deal + ", 0, 0)");
        }
        x.due(24, "deposit(0, 1000)");
        for (int deal = 0; deal < 12; deal++) x.due(RELEASED, "state(" + deal + ")");
        x.due(25, "entries()");
        x.due(1000, "balance(0)");
    }

    private static void lowestNumberFirst() {
        Calls x = new Calls(2);
        x.taken("gate(1) offer(0, 1, 8) offer(0, 1, 5) offer(0, 1, 3) offer(0, 1, 2)");
        x.taken("terms(3, 0, 0) terms(2, 0, 0) terms(1, 0, 0) terms(0, 0, 0)");
        x.due(2, "deposit(0, 7)");
        int[] states = {WAITING, HELD, WAITING, HELD};
        for (int deal = 0; deal < 4; deal++) x.due(states[deal], "state(" + deal + ")");
        x.due(1, "entryDeal(1)");
        x.due(3, "entryDeal(2)");
    }

    private static void twiceInOneSettling() {
        Calls x = new Calls(2);
        x.taken("after(0) gate(1) offer(0, 1, 5) offer(0, 1, 5) terms(0, 1, 0) terms(1, 0, 1)");
        x.due(4, "deposit(0, 5)");
        int[] deals = {-1, 0, 0, 1, 1};
        int[] kinds = {DEPOSIT, FUND, REFUND, FUND, RELEASE};
        for (int i = 0; i < 5; i++) {
            x.due(deals[i], "entryDeal(" + i + ")");
            x.due(kinds[i], "entryKind(" + i + ")");
        }
    }

    private static void enablesLowerNumbers() {
        Calls x = new Calls(4);
        x.taken("after(0) offer(2, 3, 5) offer(1, 2, 5) offer(0, 1, 5)");
        for (int deal = 0; deal < 3; deal++) x.taken("terms(" + deal + ", 0, 0)");
        x.due(6, "deposit(0, 5)");
        int[] deals = {-1, 2, 2, 1, 1, 0, 0};
        for (int i = 0; i < deals.length; i++) x.due(deals[i], "entryDeal(" + i + ")");
        x.due(5, "balance(3)");
    }

    private static void enablesHigherNumbers() {
        Calls x = new Calls(4);
        x.taken("after(0) offer(0, 1, 5) offer(1, 2, 5) offer(2, 3, 5)");
        for (int deal = 0; deal < 3; deal++) x.taken("terms(" + deal + ", 0, 0)");
        x.due(6, "deposit(0, 5)");
        int[] deals = {-1, 0, 0, 1, 1, 2, 2};
        for (int i = 0; i < deals.length; i++) x.due(deals[i], "entryDeal(" + i + ")");
        x.due(5, "balance(3)");
    }

    /** A deposit of day 0, a funding and a release of day 1, a deposit of day 3, and a funding and a refund of day 3. */
    private static Calls withBothEndings() {
        Calls x = new Calls(3);
        x.taken("after(0) gate(1) offer(0, 1, 5) offer(2, 1, 6) deposit(0, 9) advance(1) terms(0, 0, 1)");
        x.taken("terms(1, 1, 0) advance(2) deposit(2, 6)");
        return x;
    }

    private static void entriesInOrder() {
        Calls x = withBothEndings();
        int[] kinds = {DEPOSIT, FUND, RELEASE, DEPOSIT, FUND, REFUND};
        for (int i = 0; i < kinds.length; i++) x.due(kinds[i], "entryKind(" + i + ")");
        x.due(6, "entries()");
    }

    private static void entryForAcceptedDeposits() {
        Calls x = new Calls(2);
        x.due(-1, "deposit(2, 5)");
        x.due(-2, "deposit(0, 0) deposit(0, 1001)");
        x.due(0, "entries() deposit(1, 5)");
        x.due(1, "entries() entryAccount(0)");
        x.due(DEPOSIT, "entryKind(0)");
        x.taken(39, "deposit(0, 1)");
        x.due(-3, "deposit(0, 1)");
        x.due(40, "entries()");
    }

    private static void entryForEveryMove() {
        Calls x = withBothEndings();
        int[] accounts = {0, 0, 1, 2, 2, 2};
        for (int i = 0; i < accounts.length; i++) x.due(accounts[i], "entryAccount(" + i + ")");
    }

    private static void amountsArePositive() {
        Calls x = withBothEndings();
        int[] amounts = {9, 5, 5, 6, 6, 6};
        for (int i = 0; i < amounts.length; i++) x.due(amounts[i], "entryAmount(" + i + ")");
    }

    private static void entriesNameTheirDeal() {
        Calls x = withBothEndings();
        int[] deals = {-1, 0, 0, -1, 1, 1};
        for (int i = 0; i < deals.length; i++) x.due(deals[i], "entryDeal(" + i + ")");
    }

    private static void entriesKeepTheirDay() {
        Calls x = withBothEndings();
        x.taken("advance(60)");
        int[] days = {0, 1, 1, 3, 3, 3};
        for (int i = 0; i < days.length; i++) x.due(days[i], "entryDay(" + i + ")");
    }

    private static void entriesEndAt64() {
        Calls x = new Calls(2);
        x.taken("signer(0) gate(1)");
        for (int deal = 0; deal < 12; deal++) x.taken("offer(0, 1, 1000) terms(" + deal + ", 0, 1)");
        for (int i = 0; i < 40; i++) x.due(i < 12 ? 1 : 0, "deposit(0, 1000)");
        x.due(52, "entries()");
        x.due(12, "mark(0, 1)");
        x.due(64, "entries()");
        x.due(-3, "deposit(0, 1000)");
        x.due(-4, "offer(0, 1, 1)");
        x.due(0, "mark(0, 0) advance(60)");
        x.due(64, "entries()");
        x.due(RELEASE, "entryKind(63)");
        x.due(11, "entryDeal(63)");
        x.due(1000, "entryAmount(63)");
        x.due(1, "entryAccount(63)");
        x.due(0, "entryDay(63)");
        x.due(-1, "entryKind(64) entryAccount(64) entryAmount(64) entryDay(64)");
        x.due(-2, "entryDeal(64)");
    }

    private static void firstDayIsZero() {
        Calls x = new Calls(2);
        x.due(0, "today()");
        x.taken("after(0) after(1) deposit(0, 1)");
        x.due(1, "truth(0)");
        x.due(0, "truth(1) entryDay(0)");
    }
}
