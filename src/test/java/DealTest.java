/** Promises 8 to 12, 17, 18 and 20: deposits, deals, days, and the settling that moves the money. */
public final class DealTest {
    private static final int MIN = Integer.MIN_VALUE;
    private static final int MAX = Integer.MAX_VALUE;

    private static final int DRAFT = ConditionEscrow.DRAFT;
    private static final int WAITING = ConditionEscrow.WAITING;
    private static final int HELD = ConditionEscrow.HELD;
    private static final int RELEASED = ConditionEscrow.RELEASED;
    private static final int REFUNDED = ConditionEscrow.REFUNDED;
    private static final int CANCELLED = ConditionEscrow.CANCELLED;

    public static void main(String[] args) {
        promise8Deposit();
        promise8DepositsEndAt40();
        promise8DepositSettles();
        promise9Offer();
        promise9DealsEndAt12();
        promise10Terms();
        promise10TermsOnlyForDrafts();
        promise10TermsSettles();
        promise11Cancel();
        promise11CancelOnlyBeforeFunding();
        promise12AdvanceRefuses();
        promise12AdvanceSettlesEveryDay();
        promise12AdvanceEndsAt2000();
        promise17Deals();
        promise18State();
        promise20Held();
        releaseGoesBeforeRefund();
        lowestNumberMovesFirst();
        oneDealMovesTwiceBeforeTheNext();
        movesEnableLowerNumbers();
        Checks.end();
    }

    private static void promise8Deposit() {
        ConditionEscrow x = new ConditionEscrow(3);
        int[] noAccounts = {-1, 3, 6, MIN, MAX};
        for (int account : noAccounts) Checks.due("deposit(" + account + ", 5)", x.deposit(account, 5), -1);
        int[] noAmounts = {0, -1, 1001, MIN, MAX};
        for (int amount : noAmounts) Checks.due("deposit(0, " + amount + ")", x.deposit(0, amount), -2);
        Checks.due("deposit(3, 0)", x.deposit(3, 0), -1);
        Checks.due("entries() after refused deposits", x.entries(), 0);
        Checks.due("deposit(2, 1)", x.deposit(2, 1), 0);
        Checks.due("deposit(2, 1000)", x.deposit(2, 1000), 0);
        Checks.due("balance(2)", x.balance(2), 1001);
        Checks.due("balance(0)", x.balance(0), 0);
        Checks.due("balance(1)", x.balance(1), 0);
        Checks.due("entries()", x.entries(), 2);
        Checks.due("entryKind(1)", x.entryKind(1), ConditionEscrow.DEPOSIT);
        Checks.due("entryAmount(1)", x.entryAmount(1), 1000);
    }

    private static void promise8DepositsEndAt40() {
        ConditionEscrow x = new ConditionEscrow(2);
        x.deposit(0, 0);
        x.deposit(2, 1);
        for (int i = 0; i < 40; i++) Checks.due("deposit " + i, x.deposit(i % 2, 1000), 0);
        Checks.due("the 41st deposit", x.deposit(0, 1), -3);
        Checks.due("the 41st deposit, for another account", x.deposit(1, 1), -3);
        Checks.due("no such account goes first", x.deposit(2, 1), -1);
        Checks.due("no such amount goes next", x.deposit(0, 1001), -2);
        Checks.due("balance(0)", x.balance(0), 20000);
        Checks.due("balance(1)", x.balance(1), 20000);
        Checks.due("entries()", x.entries(), 40);
    }

    private static void promise8DepositSettles() {
        ConditionEscrow x = new ConditionEscrow(2);
        x.after(0);
        x.gate(1);
        x.offer(0, 1, 10);
        x.offer(0, 1, 20);
        x.terms(0, 0, 1);
        x.terms(1, 1, 1);
        Checks.due("deposit(0, 9), one too little", x.deposit(0, 9), 0);
        Checks.due("deposit(1, 50), to the payee", x.deposit(1, 50), 0);
        Checks.due("deposit(0, 1), just enough", x.deposit(0, 1), 2);
        Checks.due("balance(0)", x.balance(0), 0);
        Checks.due("balance(1)", x.balance(1), 60);
        Checks.due("deposit(0, 25)", x.deposit(0, 25), 1);
        Checks.due("balance(0)", x.balance(0), 5);
        Checks.due("state(1)", x.state(1), HELD);
    }

    private static void promise9Offer() {
        ConditionEscrow x = new ConditionEscrow(3);
        int[] noAccounts = {-1, 3, 6, MIN, MAX};
        for (int account : noAccounts) {
            Checks.due("offer(" + account + ", 0, 1)", x.offer(account, 0, 1), -1);
            Checks.due("offer(0, " + account + ", 1)", x.offer(0, account, 1), -1);
            Checks.due("offer of " + account + " to itself", x.offer(account, account, 0), -1);
        }
        Checks.due("offer(1, 1, 1)", x.offer(1, 1, 1), -2);
        Checks.due("offer(1, 1, 0)", x.offer(1, 1, 0), -2);
        int[] noAmounts = {0, -1, 1001, MIN, MAX};
        for (int amount : noAmounts) Checks.due("offer(0, 1, " + amount + ")", x.offer(0, 1, amount), -3);
        Checks.due("deals() after refused offers", x.deals(), 0);
        x.deposit(0, 10);
        Checks.due("offer(0, 2, 1)", x.offer(0, 2, 1), 0);
        Checks.due("offer(2, 1, 1000)", x.offer(2, 1, 1000), 1);
        Checks.due("state(0)", x.state(0), DRAFT);
        Checks.due("state(1)", x.state(1), DRAFT);
        Checks.due("forecast(0), without terms", x.forecast(0), -2);
        Checks.due("advance(1): a draft is not funded", x.advance(1), 0);
        Checks.due("balance(0)", x.balance(0), 10);
    }

    private static void promise9DealsEndAt12() {
        ConditionEscrow x = new ConditionEscrow(2);
        for (int deal = 0; deal < 12; deal++) Checks.due("offer " + deal, x.offer(deal % 2, 1 - deal % 2, 1 + deal), deal);
        Checks.due("the 13th offer", x.offer(0, 1, 1), -4);
        Checks.due("no such account goes first", x.offer(0, 2, 1), -1);
        Checks.due("the same account goes next", x.offer(1, 1, 1), -2);
        Checks.due("no such amount goes next", x.offer(0, 1, 0), -3);
        x.cancel(0);
        Checks.due("a cancelled deal still counts", x.offer(0, 1, 1), -4);
        Checks.due("deals()", x.deals(), 12);
        Checks.due("state(11)", x.state(11), DRAFT);
        Checks.due("state(12)", x.state(12), -1);
    }

    private static void promise10Terms() {
        ConditionEscrow x = new ConditionEscrow(2);
        Checks.due("terms(0, 0, 0) without deals", x.terms(0, 0, 0), -1);
        x.offer(0, 1, 5);
        Checks.due("terms(0, 0, 0) without nodes", x.terms(0, 0, 0), -3);
        x.after(1);
        x.after(2);
        int[] noDeals = {-1, 1, 12, MIN, MAX};
        for (int deal : noDeals) Checks.due("terms(" + deal + ", 0, 1)", x.terms(deal, 0, 1), -1);
        int[] noNodes = {-1, 2, 24, MIN, MAX};
        for (int node : noNodes) {
            Checks.due("terms(0, " + node + ", 0)", x.terms(0, node, 0), -3);
            Checks.due("terms(0, 0, " + node + ")", x.terms(0, 0, node), -3);
        }
        Checks.due("state(0) after refused terms", x.state(0), DRAFT);
        Checks.due("forecast(0) after refused terms", x.forecast(0), -2);
        Checks.due("terms(0, 1, 0)", x.terms(0, 1, 0), 0);
        Checks.due("state(0)", x.state(0), WAITING);
        Checks.due("forecast(0) is of the release node", x.forecast(0), 2);
    }

    private static void promise10TermsOnlyForDrafts() {
        ConditionEscrow x = new ConditionEscrow(2);
        x.after(0);
        x.gate(1);
        for (int deal = 0; deal < 5; deal++) x.offer(0, 1, 1);
        x.deposit(0, 3);
        Checks.due("terms(0, 1, 1)", x.terms(0, 1, 1), 1);
        Checks.due("terms(1, 0, 1)", x.terms(1, 0, 1), 2);
        Checks.due("terms(2, 1, 0)", x.terms(2, 1, 0), 2);
        Checks.due("terms(4, 1, 1)", x.terms(4, 1, 1), 1);
        x.cancel(3);
        x.offer(0, 1, 1000);
        Checks.due("terms(5, 0, 1)", x.terms(5, 0, 1), 0);
        int[] states = {HELD, RELEASED, REFUNDED, CANCELLED, HELD, WAITING};
        for (int deal = 0; deal < states.length; deal++) {
            Checks.due("state(" + deal + ")", x.state(deal), states[deal]);
            Checks.due("terms(" + deal + ", 0, 0)", x.terms(deal, 0, 0), -2);
            Checks.due("terms(" + deal + ", 9, 9)", x.terms(deal, 9, 9), -2);
            Checks.due("state(" + deal + ")", x.state(deal), states[deal]);
        }
    }

    private static void promise10TermsSettles() {
        ConditionEscrow x = new ConditionEscrow(3);
        x.after(0);
        x.gate(1);
        x.offer(0, 1, 7);
        x.offer(1, 2, 7);
        x.offer(1, 2, 3);
        x.deposit(0, 7);
        Checks.due("terms(1, 0, 1): the payer has nothing", x.terms(1, 0, 1), 0);
        Checks.due("terms(0, 0, 1): both deals move twice", x.terms(0, 0, 1), 4);
        Checks.due("terms(2, 0, 0): the payer has nothing left", x.terms(2, 0, 0), 0);
        Checks.due("balance(2)", x.balance(2), 7);
        Checks.due("deposit(1, 3): the same node for both", x.deposit(1, 3), 2);
        Checks.due("state(2): release goes first", x.state(2), RELEASED);
    }

    private static void promise11Cancel() {
        ConditionEscrow x = new ConditionEscrow(2);
        x.after(0);
        x.offer(0, 1, 5);
        x.offer(0, 1, 5);
        x.terms(1, 0, 0);
        int[] noDeals = {-1, 2, 12, MIN, MAX};
        for (int deal : noDeals) Checks.due("cancel(" + deal + ")", x.cancel(deal), -1);
        Checks.due("cancel(0) of a draft", x.cancel(0), DRAFT);
        Checks.due("cancel(1) of a waiting deal", x.cancel(1), WAITING);
        for (int deal = 0; deal < 2; deal++) {
            Checks.due("state(" + deal + ")", x.state(deal), CANCELLED);
            Checks.due("cancel(" + deal + ") again", x.cancel(deal), -2);
        }
        Checks.due("deposit(0, 10): cancelled deals don't move", x.deposit(0, 10), 0);
        Checks.due("balance(0)", x.balance(0), 10);
        Checks.due("deals()", x.deals(), 2);
    }

    private static void promise11CancelOnlyBeforeFunding() {
        ConditionEscrow x = new ConditionEscrow(2);
        x.after(0);
        x.gate(1);
        x.deposit(0, 3);
        for (int deal = 0; deal < 3; deal++) x.offer(0, 1, 1);
        x.terms(0, 1, 1);
        x.terms(1, 0, 1);
        x.terms(2, 1, 0);
        int[] states = {HELD, RELEASED, REFUNDED};
        for (int deal = 0; deal < 3; deal++) {
            Checks.due("state(" + deal + ")", x.state(deal), states[deal]);
            Checks.due("cancel(" + deal + ")", x.cancel(deal), -2);
            Checks.due("state(" + deal + ") after the refusal", x.state(deal), states[deal]);
        }
        Checks.due("held()", x.held(), 1);
    }

    private static void promise12AdvanceRefuses() {
        ConditionEscrow x = new ConditionEscrow(2);
        int[] wrong = {0, -1, 61, MIN, MAX};
        for (int days : wrong) Checks.due("advance(" + days + ")", x.advance(days), -1);
        Checks.due("today() after refused advances", x.today(), 0);
        Checks.due("advance(1)", x.advance(1), 0);
        Checks.due("today()", x.today(), 1);
        Checks.due("advance(60)", x.advance(60), 0);
        Checks.due("today()", x.today(), 61);
    }

    private static void promise12AdvanceSettlesEveryDay() {
        ConditionEscrow x = new ConditionEscrow(2);
        // True on day 3 alone, which a settling only at the end would miss.
        x.after(3);
        x.after(4);
        x.gate(1);
        x.link(2, 0, 1);
        x.link(2, 1, -1);
        x.gate(1);
        x.offer(0, 1, 5);
        x.terms(0, 2, 3);
        x.offer(1, 0, 5);
        x.terms(1, 1, 3);
        x.deposit(0, 5);
        Checks.due("advance(10)", x.advance(10), 3);
        Checks.due("today()", x.today(), 10);
        Checks.due("state(0)", x.state(0), RELEASED);
        Checks.due("state(1)", x.state(1), RELEASED);
        Checks.due("entryDay(1)", x.entryDay(1), 0);
        Checks.due("entryDay(2)", x.entryDay(2), 3);
        Checks.due("entryDay(3)", x.entryDay(3), 3);
        Checks.due("entryDay(4)", x.entryDay(4), 4);
    }

    private static void promise12AdvanceEndsAt2000() {
        ConditionEscrow x = new ConditionEscrow(2);
        for (int i = 0; i < 33; i++) Checks.due("advance(60)", x.advance(60), 0);
        Checks.due("today()", x.today(), 1980);
        Checks.due("advance(21)", x.advance(21), -2);
        Checks.due("advance(60)", x.advance(60), -2);
        Checks.due("advance(61)", x.advance(61), -1);
        Checks.due("today() after refused advances", x.today(), 1980);
        Checks.due("advance(19)", x.advance(19), 0);
        Checks.due("advance(2)", x.advance(2), -2);
        Checks.due("advance(1)", x.advance(1), 0);
        Checks.due("today()", x.today(), 2000);
        Checks.due("advance(1) on day 2000", x.advance(1), -2);
        Checks.due("advance(0) on day 2000", x.advance(0), -1);
        Checks.due("today()", x.today(), 2000);
    }

    private static void promise17Deals() {
        ConditionEscrow x = new ConditionEscrow(2);
        Checks.due("deals() of a new object", x.deals(), 0);
        x.offer(0, 1, 1);
        Checks.due("deals()", x.deals(), 1);
        x.offer(1, 0, 1);
        Checks.due("deals()", x.deals(), 2);
        x.cancel(1);
        Checks.due("deals() after a cancel", x.deals(), 2);
    }

    private static void promise18State() {
        ConditionEscrow x = new ConditionEscrow(2);
        Checks.due("state(0) without deals", x.state(0), -1);
        x.offer(0, 1, 1);
        int[] noDeals = {-1, 1, 12, MIN, MAX};
        for (int deal : noDeals) Checks.due("state(" + deal + ")", x.state(deal), -1);
        x.signer(0);
        x.signer(1);
        Checks.due("state(0)", x.state(0), DRAFT);
        x.terms(0, 0, 1);
        Checks.due("state(0)", x.state(0), WAITING);
        x.deposit(0, 1);
        Checks.due("state(0)", x.state(0), HELD);
        x.mark(1, 1);
        Checks.due("state(0)", x.state(0), REFUNDED);
        x.mark(0, 1);
        Checks.due("state(0): a refunded deal stays so", x.state(0), REFUNDED);
    }

    private static void promise20Held() {
        ConditionEscrow x = new ConditionEscrow(3);
        x.signer(0);
        x.signer(1);
        x.gate(1);
        Checks.due("held() of a new object", x.held(), 0);
        x.offer(0, 1, 100);
        x.offer(0, 2, 20);
        x.offer(1, 2, 1000);
        x.terms(0, 0, 2);
        x.terms(1, 2, 1);
        x.terms(2, 0, 1);
        Checks.due("held() with waiting deals", x.held(), 0);
        x.deposit(0, 100);
        Checks.due("held()", x.held(), 100);
        x.deposit(0, 25);
        Checks.due("held()", x.held(), 120);
        x.mark(0, 1);
        Checks.due("held() after a release", x.held(), 20);
        x.mark(1, 1);
        Checks.due("held() after a refund", x.held(), 0);
        Checks.due("balance(0)", x.balance(0), 25);
        Checks.due("balance(1)", x.balance(1), 100);
    }

    private static void releaseGoesBeforeRefund() {
        ConditionEscrow x = new ConditionEscrow(2);
        x.signer(0);
        x.gate(1);
        x.offer(0, 1, 5);
        x.offer(0, 1, 5);
        x.terms(0, 0, 0);
        x.terms(1, 1, 0);
        x.deposit(0, 10);
        Checks.due("mark(0, 1)", x.mark(0, 1), 2);
        Checks.due("state(0), with both nodes true", x.state(0), RELEASED);
        Checks.due("state(1), with the refund node true", x.state(1), REFUNDED);
        Checks.due("balance(0)", x.balance(0), 5);
        Checks.due("balance(1)", x.balance(1), 5);
    }

    private static void lowestNumberMovesFirst() {
        ConditionEscrow x = new ConditionEscrow(2);
        x.gate(1);
        int[] amounts = {8, 5, 3, 2};
        for (int amount : amounts) x.offer(0, 1, amount);
        for (int deal = 3; deal >= 0; deal--) Checks.due("terms of " + deal, x.terms(deal, 0, 0), 0);
        Checks.due("deposit(0, 7): 8 is too much, then 5, then 2", x.deposit(0, 7), 2);
        int[] states = {WAITING, HELD, WAITING, HELD};
        for (int deal = 0; deal < 4; deal++) Checks.due("state(" + deal + ")", x.state(deal), states[deal]);
        Checks.due("entryDeal(1)", x.entryDeal(1), 1);
        Checks.due("entryDeal(2)", x.entryDeal(2), 3);
    }

    private static void oneDealMovesTwiceBeforeTheNext() {
        ConditionEscrow x = new ConditionEscrow(2);
        x.after(0);
        x.gate(1);
        x.offer(0, 1, 5);
        x.offer(0, 1, 5);
        x.terms(0, 1, 0);
        x.terms(1, 0, 1);
        Checks.due("deposit(0, 5)", x.deposit(0, 5), 4);
        int[] kinds = {ConditionEscrow.DEPOSIT, ConditionEscrow.FUND, ConditionEscrow.REFUND, ConditionEscrow.FUND, ConditionEscrow.RELEASE};
        int[] deals = {-1, 0, 0, 1, 1};
        for (int i = 0; i < 5; i++) {
            Checks.due("entryKind(" + i + ")", x.entryKind(i), kinds[i]);
            Checks.due("entryDeal(" + i + ")", x.entryDeal(i), deals[i]);
        }
    }

    private static void movesEnableLowerNumbers() {
        ConditionEscrow x = new ConditionEscrow(4);
        x.after(0);
        x.gate(1);
        x.offer(2, 3, 5);
        x.offer(1, 2, 5);
        x.offer(0, 1, 5);
        x.offer(3, 0, 5);
        for (int deal = 0; deal < 4; deal++) x.terms(deal, 0, 1);
        Checks.due("deposit(0, 5)", x.deposit(0, 5), 8);
        int[] deals = {2, 2, 1, 1, 0, 0, 3, 3};
        for (int i = 0; i < 8; i++) Checks.due("entryDeal(" + (i + 1) + ")", x.entryDeal(i + 1), deals[i]);
        Checks.due("balance(0)", x.balance(0), 5);
    }
}
