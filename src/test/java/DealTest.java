/** Promises 8 to 12, 17, 18 and 20, sentence by sentence: deposits, deals and days. */
public final class DealTest {
    private static final int DRAFT = ConditionEscrow.DRAFT;
    private static final int WAITING = ConditionEscrow.WAITING;
    private static final int HELD = ConditionEscrow.HELD;
    private static final int RELEASED = ConditionEscrow.RELEASED;
    private static final int REFUNDED = ConditionEscrow.REFUNDED;
    private static final int CANCELLED = ConditionEscrow.CANCELLED;

    public static void main(String[] args) {
        Checks.promise(8, "The amount joins the account's balance (entry DEPOSIT)", DealTest::depositJoinsTheBalance);
        Checks.promise(8, "then settling", DealTest::depositSettles);
        Checks.promise(8, "-1 if there is no such account", DealTest::depositToNoAccount);
        Checks.promise(8, "-2 if amount is not in 1 .. 1000", DealTest::depositOutOfRange);
        Checks.promise(8, "-3 if 40 deposits have been accepted", DealTest::depositAfter40);
        Checks.promise(8, "-3 if 40 deposits have been accepted", DealTest::refusedDepositsAreNotAccepted);
        Checks.promise(8, "-3 if 40 deposits have been accepted", DealTest::movesAreNoDeposits);
        Checks.promise(8, "otherwise answers how many moves were made", DealTest::depositCountsMoves);
        Checks.promise(9, "Makes a deal in state DRAFT, without terms", DealTest::offerIsADraft);
        Checks.promise(9, "-1 if payer or payee is not the number of an account", DealTest::offerByNoAccount);
        Checks.promise(9, "-1 if payer or payee is not the number of an account", DealTest::offerToNoAccount);
        Checks.promise(9, "-2 if they are the same", DealTest::offerToItself);
        Checks.promise(9, "-3 if amount is not in 1 .. 1000", DealTest::offerOutOfRange);
        Checks.promise(9, "-4 if there are 12 deals", DealTest::offerAfter12);
        Checks.promise(9, "-4 if there are 12 deals", DealTest::endedDealsStillCount);
        Checks.promise(9, "otherwise answers the new deal's number", DealTest::offerIsNumbered);
        Checks.promise(10, "Gives a deal its release node and refund node", DealTest::termsTakeAnyNode);
        Checks.promise(10, "(they may be the same)", DealTest::termsWithOneNode);
        Checks.promise(10, "it becomes WAITING", DealTest::termsMakeItWait);
        Checks.promise(10, "then settling", DealTest::termsSettle);
        Checks.promise(10, "-1 if there is no such deal", DealTest::termsOfNoDeal);
        Checks.promise(10, "-2 if it isn't in state DRAFT", DealTest::termsOnlyOfDrafts);
        Checks.promise(10, "-3 if release or refund is not the number of a node", DealTest::termsWithNoReleaseNode);
        Checks.promise(10, "-3 if release or refund is not the number of a node", DealTest::termsWithNoRefundNode);
        Checks.promise(10, "-3 if release or refund is not the number of a node", DealTest::termsWithoutAnyNode);
        Checks.promise(10, "otherwise answers how many moves were made", DealTest::termsCountMoves);
        Checks.promise(11, "The deal becomes CANCELLED", DealTest::cancelEndsADeal);
        Checks.promise(11, "-1 if there is no such deal", DealTest::cancelOfNoDeal);
        Checks.promise(11, "-2 if it is neither DRAFT nor WAITING", DealTest::cancelOnlyBeforeFunding);
        Checks.promise(11, "otherwise answers the state that it had before", DealTest::cancelAnswersTheStateBefore);
        Checks.promise(12, "As many times as days says: today becomes one more", DealTest::advanceMovesTheDay);
        Checks.promise(12, "then settling", DealTest::advanceSettlesEveryDay);
        Checks.promise(12, "then settling", DealTest::advanceSettlesTheLastDay);
        Checks.promise(12, "-1 if days is not in 1 .. 60", DealTest::advanceOutOfRange);
        Checks.promise(12, "-2 if today + days is more than 2000", DealTest::advancePastTheLastDay);
        Checks.promise(12, "-2 if today + days is more than 2000", DealTest::advanceOnTheLastDay);
        Checks.promise(12, "otherwise answers how many moves were made in all", DealTest::advanceCountsMovesInAll);
        Checks.promise(17, "How many deals there are", DealTest::dealsFromNoneToFull);
        Checks.promise(18, "The deal's state", DealTest::stateOfEveryDeal);
        Checks.promise(18, "-1 if there is no such deal", DealTest::stateOfNoDeal);
        Checks.promise(18, "-1 if there is no such deal", DealTest::stateOfNoDealWhenFull);
        Checks.promise(20, "The sum of the amounts of all deals in state HELD", DealTest::heldFollowsTheDeals);
        Checks.promise(20, "The sum of the amounts of all deals in state HELD", DealTest::heldFromNoneToAll);
        Checks.end();
    }

    /** Deals 0 to 5, each in the state of its own number; node 0 is true, node 1 false, account 0 is left with nothing. */
    private static Calls withADealInEveryState() {
        return States.middle(new ConditionEscrow(States.ACCOUNTS));
    }

    private static void depositJoinsTheBalance() {
        Calls x = new Calls(3);
        x.taken("deposit(2, 1) deposit(2, 1000)");
        x.due(1001, "balance(2)");
        x.due(0, "balance(0) balance(1)");
        x.due(2, "entries()");
        x.due(ConditionEscrow.DEPOSIT, "entryKind(0) entryKind(1)");
        x.due(2, "entryAccount(0) entryAccount(1)");
    }

    private static Calls withWaitingDeals() {
        Calls x = new Calls(2);
        x.taken("after(0) gate(1) offer(0, 1, 10) offer(0, 1, 20) terms(0, 0, 1) terms(1, 1, 1)");
        return x;
    }

    private static void depositSettles() {
        Calls x = withWaitingDeals();
        x.taken("deposit(0, 9)");
        x.due(WAITING, "state(0)");
        x.taken("deposit(0, 1)");
        x.due(RELEASED, "state(0)");
        x.due(0, "balance(0)");
        x.due(10, "balance(1)");
    }

    private static void depositToNoAccount() {
        Calls x = new Calls(3);
        x.due(-1, "deposit(-1, 5) deposit(3, 5) deposit(5, 5) deposit(6, 5) deposit(MIN, 5) deposit(MAX, 5)");
        x.due(0, "deposit(0, 5) deposit(2, 5)");
    }

    private static void depositOutOfRange() {
        Calls x = new Calls(2);
        x.due(-2, "deposit(0, 0) deposit(0, -1) deposit(0, 1001) deposit(0, MIN) deposit(0, MAX)");
        x.due(0, "deposit(0, 1) deposit(0, 1000)");
        x.due(1001, "balance(0)");
    }

    private static void depositAfter40() {
        Calls x = new Calls(2);
        for (int i = 0; i < 40; i++) x.due(0, "deposit(" + i % 2 + ", 1000)");
        x.due(-3, "deposit(0, 1) deposit(1, 1) deposit(0, 1000)");
        x.due(20000, "balance(0) balance(1)");
        x.due(40, "entries()");
    }

    private static void refusedDepositsAreNotAccepted() {
        Calls x = new Calls(2);
        x.taken(39, "deposit(0, 1)");
        for (int i = 0; i < 5; i++) {
            x.due(-1, "deposit(2, 1)");
            x.due(-2, "deposit(0, 0)");
        }
        x.due(0, "deposit(0, 1)");
        x.due(-3, "deposit(0, 1)");
    }

    private static void movesAreNoDeposits() {
        Calls x = withWaitingDeals();
        x.due(3, "deposit(0, 30)");
        for (int i = 1; i < 40; i++) x.due(0, "deposit(0, 1)");
        x.due(43, "entries()");
        x.due(-3, "deposit(0, 1)");
    }

    private static void depositCountsMoves() {
        Calls x = withWaitingDeals();
        x.due(0, "deposit(0, 9) deposit(1, 50)");
        x.due(2, "deposit(0, 1)");
        x.due(1, "deposit(0, 25)");
        x.due(0, "deposit(0, 25)");
    }

    private static void offerIsADraft() {
        Calls x = new Calls(2);
        x.taken("after(0) deposit(0, 10) offer(0, 1, 1)");
        x.due(DRAFT, "state(0)");
        x.due(-2, "forecast(0)");
        x.due(0, "advance(1) deposit(0, 1) mark(0, 1) held()");
        x.due(11, "balance(0)");
    }

    private static void offerByNoAccount() {
        Calls x = new Calls(3);
        x.due(-1, "offer(-1, 0, 1) offer(3, 0, 1) offer(6, 0, 1) offer(MIN, 0, 1) offer(MAX, 0, 1)");
        x.due(0, "offer(0, 1, 1)");
        x.due(1, "offer(2, 1, 1)");
    }

    private static void offerToNoAccount() {
        Calls x = new Calls(3);
        x.due(-1, "offer(0, -1, 1) offer(0, 3, 1) offer(0, 6, 1) offer(0, MIN, 1) offer(0, MAX, 1)");
        x.due(0, "offer(1, 0, 1)");
        x.due(1, "offer(1, 2, 1)");
    }

    private static void offerToItself() {
        Calls x = new Calls(3);
        x.due(-2, "offer(0, 0, 1) offer(1, 1, 1) offer(2, 2, 1)");
        x.due(0, "deals() offer(0, 1, 1)");
        x.due(1, "offer(2, 1, 1)");
    }

    private static void offerOutOfRange() {
        Calls x = new Calls(2);
        x.due(-3, "offer(0, 1, 0) offer(0, 1, -1) offer(0, 1, 1001) offer(0, 1, MIN) offer(0, 1, MAX)");
        x.due(0, "offer(0, 1, 1)");
        x.due(1, "offer(0, 1, 1000)");
    }

    private static void offerAfter12() {
        Calls x = new Calls(2);
        x.taken(11, "offer(0, 1, 1)");
        x.due(11, "offer(1, 0, 1)");
        x.due(-4, "offer(0, 1, 1) offer(1, 0, 1000)");
        x.due(12, "deals()");
    }

    private static void endedDealsStillCount() {
        Calls x = withADealInEveryState();
        x.taken(6, "offer(0, 1, 5)");
        x.due(-4, "offer(0, 1, 5)");
        x.taken("cancel(11)");
        x.due(-4, "offer(0, 1, 5)");
    }

    private static void offerIsNumbered() {
        Calls x = new Calls(2);
        for (int deal = 0; deal < 12; deal++) x.due(deal, "offer(" + deal % 2 + ", " + (1 - deal % 2) + ", " + (1 + deal) + ")");
    }

    private static void termsTakeAnyNode() {
        Calls x = new Calls(2);
        x.taken("signer(0)");
        x.taken(22, "gate(1)");
        x.taken("signer(1) offer(0, 1, 5) offer(0, 1, 6)");
        x.due(0, "terms(0, 0, 23) terms(1, 23, 0)");
        x.taken("deposit(0, 11) mark(1, 1)");
        x.due(REFUNDED, "state(0)");
        x.due(RELEASED, "state(1)");
    }

    private static void termsWithOneNode() {
        Calls x = new Calls(2);
        x.taken("signer(0) offer(0, 1, 5)");
        x.due(0, "terms(0, 0, 0)");
        x.taken("deposit(0, 5) mark(0, 1)");
        x.due(RELEASED, "state(0)");
    }

    private static void termsMakeItWait() {
        Calls x = new Calls(2);
        x.taken("after(0) offer(0, 1, 5) offer(0, 1, 5) deposit(0, 4) terms(1, 0, 0)");
        x.due(DRAFT, "state(0)");
        x.due(WAITING, "state(1)");
        x.due(0, "forecast(1)");
    }

    private static void termsSettle() {
        Calls x = new Calls(2);
        x.taken("after(0) gate(1) offer(0, 1, 5) offer(0, 1, 5) deposit(0, 10) terms(1, 1, 1)");
        x.due(HELD, "state(1)");
        x.taken("terms(0, 0, 1)");
        x.due(RELEASED, "state(0)");
        x.due(5, "balance(1) held()");
    }

    private static void termsOfNoDeal() {
        Calls x = new Calls(2);
        x.taken("after(0)");
        x.due(-1, "terms(0, 0, 0) terms(-1, 0, 0)");
        x.taken("offer(0, 1, 5) offer(0, 1, 5)");
        x.due(-1, "terms(-1, 0, 0) terms(2, 0, 0) terms(11, 0, 0) terms(12, 0, 0) terms(MIN, 0, 0) terms(MAX, 0, 0)");
        x.due(0, "terms(0, 0, 0) terms(1, 0, 0)");
    }

    private static void termsOnlyOfDrafts() {
        Calls x = withADealInEveryState();
        for (int deal = 1; deal < 6; deal++) x.due(-2, "terms(" + deal + ", 0, 0)");
        for (int deal = 1; deal < 6; deal++) x.due(deal, "state(" + deal + ")");
        x.due(0, "terms(0, 1, 1)");
        x.due(-2, "terms(0, 1, 1)");
    }

    private static void termsWithNoReleaseNode() {
        Calls x = new Calls(2);
        x.taken("after(1) after(2) offer(0, 1, 5)");
        x.due(-3, "terms(0, -1, 0) terms(0, 2, 0) terms(0, 24, 0) terms(0, MIN, 0) terms(0, MAX, 0)");
        x.due(DRAFT, "state(0)");
        x.due(-2, "forecast(0)");
        x.due(0, "terms(0, 1, 0)");
    }

    private static void termsWithNoRefundNode() {
        Calls x = new Calls(2);
        x.taken("after(1) after(2) offer(0, 1, 5)");
        x.due(-3, "terms(0, 0, -1) terms(0, 0, 2) terms(0, 0, 24) terms(0, 0, MIN) terms(0, 0, MAX)");
        x.due(DRAFT, "state(0)");
        x.due(-2, "forecast(0)");
        x.due(0, "terms(0, 0, 1)");
    }

    private static void termsWithoutAnyNode() {
        Calls x = new Calls(2);
        x.taken("offer(0, 1, 5)");
        x.due(-3, "terms(0, 0, 0)");
        x.taken("after(0)");
        x.due(0, "terms(0, 0, 0)");
    }

    private static void termsCountMoves() {
        Calls x = new Calls(3);
        x.taken("after(0) gate(1) offer(0, 1, 7) offer(1, 2, 7) offer(1, 2, 3) deposit(0, 7)");
        x.due(0, "terms(1, 0, 1)");
        x.due(4, "terms(0, 0, 1)");
        x.taken("deposit(1, 3)");
        x.due(1, "terms(2, 1, 1)");
    }

    private static void cancelEndsADeal() {
        Calls x = new Calls(2);
        x.taken("after(0) offer(0, 1, 5) offer(0, 1, 5) offer(0, 1, 5) terms(1, 0, 0) cancel(0) cancel(1)");
        x.due(CANCELLED, "state(0) state(1)");
        x.due(DRAFT, "state(2)");
        x.due(0, "deposit(0, 10) advance(1)");
        x.due(10, "balance(0)");
        x.due(3, "deals()");
    }

    private static void cancelOfNoDeal() {
        Calls x = new Calls(2);
        x.due(-1, "cancel(0) cancel(-1)");
        x.taken("offer(0, 1, 5) offer(0, 1, 5)");
        x.due(-1, "cancel(-1) cancel(2) cancel(11) cancel(12) cancel(MIN) cancel(MAX)");
        x.due(DRAFT, "state(0) state(1) cancel(0) cancel(1)");
    }

    private static void cancelOnlyBeforeFunding() {
        Calls x = withADealInEveryState();
        x.due(-2, "cancel(2) cancel(3) cancel(4) cancel(5)");
        for (int deal = 0; deal < 6; deal++) x.due(deal, "state(" + deal + ")");
        x.taken("cancel(0) cancel(1)");
        x.due(-2, "cancel(0) cancel(1)");
    }

    private static void cancelAnswersTheStateBefore() {
        Calls x = withADealInEveryState();
        x.due(DRAFT, "cancel(0)");
        x.due(WAITING, "cancel(1)");
    }

    private static void advanceMovesTheDay() {
        Calls x = new Calls(2);
        int today = 0;
        for (int days = 1; days <= 60; days++) {
            x.taken("advance(" + days + ")");
            today += days;
            x.due(today, "today()");
        }
    }

    private static void advanceSettlesEveryDay() {
        Calls x = new Calls(2);
        // Gate 2 is true on day 3 alone, which a settling only on the last day would miss.
        x.taken("after(3) after(4) gate(1) link(2, 0, 1) link(2, 1, -1) gate(1)");
        x.taken("offer(0, 1, 5) terms(0, 2, 3) offer(1, 0, 5) terms(1, 1, 3) deposit(0, 5) advance(10)");
        x.due(RELEASED, "state(0) state(1)");
        x.due(0, "entryDay(1)");
        x.due(3, "entryDay(2) entryDay(3)");
        x.due(4, "entryDay(4)");
    }

    private static void advanceSettlesTheLastDay() {
        Calls x = new Calls(2);
        x.taken("after(60) gate(1) offer(0, 1, 5) terms(0, 0, 1) deposit(0, 5)");
        x.due(0, "advance(59)");
        x.due(HELD, "state(0)");
        x.due(1, "advance(1)");
        x.due(RELEASED, "state(0)");
        // The first day of a step is the next one: today itself is settled already.
        x.taken("after(61) offer(1, 0, 5) terms(1, 2, 1)");
        x.due(1, "advance(60)");
        x.due(61, "entryDay(4)");
    }

    private static void advanceOutOfRange() {
        Calls x = new Calls(2);
        x.due(-1, "advance(0) advance(-1) advance(61) advance(MIN) advance(MAX)");
        x.due(0, "today() advance(1)");
        x.due(1, "today()");
        x.due(0, "advance(60)");
        x.due(61, "today()");
        x.due(-1, "advance(0) advance(-1) advance(61) advance(MIN) advance(MAX)");
        x.due(61, "today()");
    }

    private static void advancePastTheLastDay() {
        for (int days = 1; days <= 60; days++) {
            Calls x = new Calls(2);
            x.untilDay(2000 - days);
            if (days < 60) x.due(-2, "advance(" + (days + 1) + ") advance(60)");
            x.due(2000 - days, "today()");
            x.due(0, "advance(" + days + ")");
            x.due(2000, "today()");
        }
    }

    private static void advanceOnTheLastDay() {
        Calls x = new Calls(2);
        x.untilDay(2000);
        x.due(-2, "advance(1) advance(2) advance(60)");
        x.due(2000, "today()");
    }

    private static void advanceCountsMovesInAll() {
        Calls x = new Calls(2);
        x.taken("after(2) after(4) gate(1) offer(0, 1, 5) offer(0, 1, 6) offer(1, 0, 11)");
        x.taken("terms(0, 0, 2) terms(1, 1, 2) terms(2, 1, 2) deposit(0, 11)");
        x.due(0, "advance(1)");
        x.due(4, "advance(5)");
        x.due(0, "advance(60)");
    }

    private static void dealsFromNoneToFull() {
        Calls x = new Calls(2);
        for (int count = 0; count < 12; count++) {
            x.due(count, "deals()");
            x.taken("offer(0, 1, 1)");
        }
        x.due(12, "deals()");
        x.taken("cancel(11)");
        x.due(12, "deals()");
    }

    private static void stateOfEveryDeal() {
        Calls x = new Calls(2);
        x.taken("signer(0) signer(1) offer(0, 1, 1) offer(0, 1, 1)");
        x.due(DRAFT, "state(0) state(1)");
        x.taken("terms(0, 0, 1)");
        x.due(WAITING, "state(0)");
        x.taken("deposit(0, 1)");
        x.due(HELD, "state(0)");
        x.taken("mark(1, 1)");
        x.due(REFUNDED, "state(0)");
        x.taken("mark(0, 1) terms(1, 0, 1)");
        x.due(REFUNDED, "state(0)");
        x.due(RELEASED, "state(1)");
    }

    private static void stateOfNoDeal() {
        Calls x = new Calls(2);
        x.due(-1, "state(0) state(-1)");
        x.taken("offer(0, 1, 1)");
        x.due(DRAFT, "state(0)");
        x.due(-1, "state(-1) state(1) state(11) state(12) state(MIN) state(MAX)");
    }

    private static void stateOfNoDealWhenFull() {
        Calls x = new Calls(2);
        x.taken(12, "offer(0, 1, 1)");
        x.due(DRAFT, "state(0) state(11)");
        x.due(-1, "state(-1) state(12) state(MIN) state(MAX)");
    }

    private static void heldFollowsTheDeals() {
        Calls x = new Calls(3);
        x.taken("signer(0) signer(1) gate(1) offer(0, 1, 100) offer(0, 2, 20) offer(1, 2, 1000) offer(0, 1, 7)");
        x.taken("terms(0, 0, 2) terms(1, 2, 1) terms(2, 0, 1)");
        x.due(0, "held()");
        x.taken("deposit(0, 100)");
        x.due(100, "held()");
        x.taken("deposit(0, 25)");
        x.due(120, "held()");
        x.taken("mark(0, 1)");
        x.due(20, "held()");
        x.taken("mark(1, 1)");
        x.due(0, "held()");
        x.due(25, "balance(0)");
        x.due(100, "balance(1)");
    }

    private static void heldFromNoneToAll() {
        Calls x = new Calls(2);
        x.due(0, "held()");
        x.taken("gate(1)");
        for (int deal = 0; deal < 12; deal++) x.taken("offer(0, 1, 1000) terms(" + deal + ", 0, 0)");
        for (int count = 0; count < 12; count++) {
            x.due(1000 * count, "held()");
            x.taken("deposit(0, 1000)");
        }
        x.due(12000, "held()");
    }
}
