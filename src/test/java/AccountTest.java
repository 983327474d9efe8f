/** Promises 1, 13, 19, 21 to 29: accounts, the entry list, and the questions that look back or ahead. */
public final class AccountTest {
    private static final int MIN = Integer.MIN_VALUE;
    private static final int MAX = Integer.MAX_VALUE;

    public static void main(String[] args) {
        promise1NewObject();
        promise1AccountsAreHeldBetween2And6();
        promise13Today();
        promise19Balance();
        promises21To26Entries();
        promises22To26NoSuchEntry();
        entriesMayBe64();
        promise27BalanceOn();
        promise27BalanceOnOfAnyDay();
        promise28Lowest();
        promise28LowestRefuses();
        promise29ForecastRefuses();
        promise29ForecastOfDays();
        promise29ForecastReaches200Days();
        promise29ForecastWhateverTheState();
        promise29ForecastKeepsMarks();
        objectsAreApart();
        Checks.end();
    }

    private static void promise1NewObject() {
        ConditionEscrow x = new ConditionEscrow(4);
        Checks.due("today()", x.today(), 0);
        Checks.due("nodes()", x.nodes(), 0);
        Checks.due("deals()", x.deals(), 0);
        Checks.due("held()", x.held(), 0);
        Checks.due("entries()", x.entries(), 0);
        for (int account = 0; account < 4; account++) Checks.due("balance(" + account + ")", x.balance(account), 0);
        Checks.due("balance(4)", x.balance(4), -1);
    }

    private static void promise1AccountsAreHeldBetween2And6() {
        int[] asked = {MIN, -1, 0, 1, 2, 3, 4, 5, 6, 7, 100, MAX};
        int[] given = {2, 2, 2, 2, 2, 3, 4, 5, 6, 6, 6, 6};
        for (int i = 0; i < asked.length; i++) {
            ConditionEscrow x = new ConditionEscrow(asked[i]);
            int last = given[i] - 1;
            Checks.due("balance(" + last + ") of " + asked[i] + " accounts", x.balance(last), 0);
            Checks.due("balance(" + given[i] + ") of " + asked[i] + " accounts", x.balance(given[i]), -1);
            Checks.due("deposit in the last of " + asked[i] + " accounts", x.deposit(last, 3), 0);
            Checks.due("deposit past the last of " + asked[i] + " accounts", x.deposit(given[i], 3), -1);
            Checks.due("offer to the last of " + asked[i] + " accounts", x.offer(0, last, 3), 0);
            Checks.due("balance(" + last + ")", x.balance(last), 3);
        }
    }

    private static void promise13Today() {
        ConditionEscrow x = new ConditionEscrow(2);
        Checks.due("today()", x.today(), 0);
        x.advance(7);
        Checks.due("today()", x.today(), 7);
        x.deposit(0, 1);
        x.mark(0, 1);
        Checks.due("today() after other calls", x.today(), 7);
        x.advance(60);
        Checks.due("today()", x.today(), 67);
    }

    private static void promise19Balance() {
        ConditionEscrow x = new ConditionEscrow(3);
        int[] noAccounts = {-1, 3, 6, MIN, MAX};
        for (int account : noAccounts) Checks.due("balance(" + account + ")", x.balance(account), -1);
        x.signer(0);
        x.signer(1);
        x.offer(0, 1, 30);
        x.offer(0, 2, 20);
        x.terms(0, 0, 1);
        x.terms(1, 1, 0);
        x.deposit(0, 50);
        Checks.due("balance(0) after funding", x.balance(0), 0);
        x.mark(0, 1);
        Checks.due("balance(0) after the refund", x.balance(0), 20);
        Checks.due("balance(1) after the release", x.balance(1), 30);
        Checks.due("balance(2)", x.balance(2), 0);
    }

    /** Six entries: four days, all four kinds, on accounts 0 to 2. */
    private static ConditionEscrow withSixEntries() {
        ConditionEscrow x = new ConditionEscrow(4);
        x.after(5);
        x.after(8);
        x.gate(1);
        x.offer(0, 1, 30);
        x.offer(1, 2, 25);
        x.terms(0, 0, 2);
        x.terms(1, 2, 1);
        x.advance(2);
        x.deposit(0, 40);
        x.advance(10);
        x.deposit(2, 7);
        return x;
    }

    private static void promises21To26Entries() {
        ConditionEscrow x = withSixEntries();
        int[] kinds = {0, 1, 2, 1, 3, 0};
        int[] accounts = {0, 0, 1, 1, 1, 2};
        int[] amounts = {40, 30, 30, 25, 25, 7};
        int[] deals = {-1, 0, 0, 1, 1, -1};
        int[] days = {2, 2, 5, 5, 8, 12};
        Checks.due("entries()", x.entries(), kinds.length);
        for (int i = 0; i < kinds.length; i++) {
            Checks.due("entryKind(" + i + ")", x.entryKind(i), kinds[i]);
            Checks.due("entryAccount(" + i + ")", x.entryAccount(i), accounts[i]);
            Checks.due("entryAmount(" + i + ")", x.entryAmount(i), amounts[i]);
            Checks.due("entryDeal(" + i + ")", x.entryDeal(i), deals[i]);
            Checks.due("entryDay(" + i + ")", x.entryDay(i), days[i]);
        }
    }

    private static void promises22To26NoSuchEntry() {
        int[] fresh = {-1, 0, 1, 63, 64, MIN, MAX};
        noSuchEntries(new ConditionEscrow(2), fresh);
        int[] used = {-1, 6, 7, 63, 64, MIN, MAX};
        noSuchEntries(withSixEntries(), used);
    }

    private static void noSuchEntries(ConditionEscrow x, int[] entries) {
        for (int i : entries) {
            Checks.due("entryKind(" + i + ")", x.entryKind(i), -1);
            Checks.due("entryAccount(" + i + ")", x.entryAccount(i), -1);
            Checks.due("entryAmount(" + i + ")", x.entryAmount(i), -1);
            Checks.due("entryDeal(" + i + ")", x.entryDeal(i), -2);
            Checks.due("entryDay(" + i + ")", x.entryDay(i), -1);
        }
    }

    private static void entriesMayBe64() {
        ConditionEscrow x = new ConditionEscrow(2);
        x.signer(0);
        x.gate(1);
        for (int deal = 0; deal < 12; deal++) x.offer(0, 1, 1000);
        for (int deal = 0; deal < 12; deal++) x.terms(deal, 0, 1);
        for (int i = 0; i < 40; i++) Checks.due("deposit " + i, x.deposit(0, 1000), i < 12 ? 1 : 0);
        Checks.due("held()", x.held(), 12000);
        Checks.due("mark(0, 1)", x.mark(0, 1), 12);
        Checks.due("entries()", x.entries(), 64);
        Checks.due("entryKind(63)", x.entryKind(63), ConditionEscrow.RELEASE);
        Checks.due("entryDeal(63)", x.entryDeal(63), 11);
        Checks.due("entryKind(64)", x.entryKind(64), -1);
        Checks.due("balance(0)", x.balance(0), 28000);
        Checks.due("balance(1)", x.balance(1), 12000);
        Checks.due("balanceOn(1, 0)", x.balanceOn(1, 0), 12000);
        Checks.due("lowest(0, 24, 64)", x.lowest(0, 24, 64), 0);
        Checks.due("lowest(0, 64, 64)", x.lowest(0, 64, 64), 28000);
        Checks.due("lowest(0, 64, 65)", x.lowest(0, 64, 65), -2);
    }

    private static void promise27BalanceOn() {
        ConditionEscrow x = withSixEntries();
        int[] noAccounts = {-1, 4, 6, MIN, MAX};
        for (int account : noAccounts) Checks.due("balanceOn(" + account + ", 5)", x.balanceOn(account, 5), -1);
        int[] days = {-1, 0, 1, 2, 4, 5, 7, 8, 11, 12, 13};
        int[] first = {0, 0, 0, 10, 10, 10, 10, 10, 10, 10, 10};
        int[] second = {0, 0, 0, 0, 0, 5, 5, 30, 30, 30, 30};
        int[] third = {0, 0, 0, 0, 0, 0, 0, 0, 0, 7, 7};
        for (int i = 0; i < days.length; i++) {
            Checks.due("balanceOn(0, " + days[i] + ")", x.balanceOn(0, days[i]), first[i]);
            Checks.due("balanceOn(1, " + days[i] + ")", x.balanceOn(1, days[i]), second[i]);
            Checks.due("balanceOn(2, " + days[i] + ")", x.balanceOn(2, days[i]), third[i]);
            Checks.due("balanceOn(3, " + days[i] + ")", x.balanceOn(3, days[i]), 0);
        }
    }

    private static void promise27BalanceOnOfAnyDay() {
        ConditionEscrow x = withSixEntries();
        for (int account = 0; account < 4; account++) {
            Checks.due("balanceOn(" + account + ", MIN)", x.balanceOn(account, MIN), 0);
            Checks.due("balanceOn(" + account + ", MAX)", x.balanceOn(account, MAX), x.balance(account));
            Checks.due("balanceOn(" + account + ", today)", x.balanceOn(account, x.today()), x.balance(account));
        }
        ConditionEscrow fresh = new ConditionEscrow(2);
        Checks.due("balanceOn(0, 0) of a new object", fresh.balanceOn(0, 0), 0);
    }

    private static void promise28Lowest() {
        ConditionEscrow x = withSixEntries();
        int[][] balances = {
            {0, 40, 10, 10, 10, 10, 10},
            {0, 0, 0, 30, 5, 30, 30},
            {0, 0, 0, 0, 0, 0, 7},
            {0, 0, 0, 0, 0, 0, 0},
        };
        for (int account = 0; account < balances.length; account++) {
            for (int i = 0; i <= 6; i++) {
                int least = balances[account][i];
                for (int j = i; j <= 6; j++) {
                    least = Math.min(least, balances[account][j]);
                    Checks.due("lowest(" + account + ", " + i + ", " + j + ")", x.lowest(account, i, j), least);
                }
            }
        }
    }

    private static void promise28LowestRefuses() {
        ConditionEscrow x = withSixEntries();
        int[] noAccounts = {-1, 4, 6, MIN, MAX};
        for (int account : noAccounts) {
            Checks.due("lowest(" + account + ", 0, 0)", x.lowest(account, 0, 0), -1);
            Checks.due("lowest(" + account + ", 1, 0)", x.lowest(account, 1, 0), -1);
        }
        int[][] wrong = {{-1, 0}, {-1, -1}, {1, 0}, {6, 5}, {0, 7}, {7, 7}, {7, 6}, {MIN, 0}, {0, MAX}, {MAX, MAX}, {MAX, MIN}, {MIN, MAX}, {0, MIN}};
        for (int[] pair : wrong) Checks.due("lowest(0, " + pair[0] + ", " + pair[1] + ")", x.lowest(0, pair[0], pair[1]), -2);
        ConditionEscrow fresh = new ConditionEscrow(2);
        Checks.due("lowest(0, 0, 0) of a new object", fresh.lowest(0, 0, 0), 0);
        Checks.due("lowest(0, 0, 1) of a new object", fresh.lowest(0, 0, 1), -2);
    }

    private static void promise29ForecastRefuses() {
        ConditionEscrow x = new ConditionEscrow(2);
        Checks.due("forecast(0) without deals", x.forecast(0), -1);
        x.gate(1);
        x.after(0);
        x.offer(0, 1, 5);
        x.offer(0, 1, 5);
        int[] noDeals = {-1, 2, 12, MIN, MAX};
        for (int deal : noDeals) Checks.due("forecast(" + deal + ")", x.forecast(deal), -1);
        Checks.due("forecast(0) of a draft", x.forecast(0), -2);
        x.cancel(0);
        Checks.due("forecast(0) of a cancelled draft", x.forecast(0), -2);
        x.terms(1, 0, 1);
        Checks.due("forecast(1): never", x.forecast(1), -3);
    }

    private static void promise29ForecastOfDays() {
        ConditionEscrow x = new ConditionEscrow(2);
        x.window(7, 2);
        x.after(20);
        x.gate(2);
        x.link(2, 0, 1);
        x.link(2, 1, 1);
        x.after(0);
        for (int deal = 0; deal < 4; deal++) x.offer(0, 1, 5);
        for (int deal = 0; deal < 4; deal++) x.terms(deal, deal, 0);
        for (int day = 0; day <= 60; day++) {
            int open = day % 7 <= 1 ? day : day + 7 - day % 7;
            Checks.due("forecast(0) on day " + day, x.forecast(0), open);
            Checks.due("forecast(1) on day " + day, x.forecast(1), Math.max(day, 20));
            Checks.due("forecast(2) on day " + day, x.forecast(2), Math.max(open, 21));
            Checks.due("forecast(3) on day " + day, x.forecast(3), day);
            x.advance(1);
        }
        Checks.due("today() after forecasts", x.today(), 61);
        Checks.due("entries() after forecasts", x.entries(), 0);
    }

    private static void promise29ForecastReaches200Days() {
        ConditionEscrow x = new ConditionEscrow(2);
        x.after(200);
        x.after(201);
        x.after(1000);
        for (int deal = 0; deal < 3; deal++) x.offer(0, 1, 5);
        for (int deal = 0; deal < 3; deal++) x.terms(deal, deal, 0);
        Checks.due("forecast(0)", x.forecast(0), 200);
        Checks.due("forecast(1)", x.forecast(1), -3);
        Checks.due("forecast(2)", x.forecast(2), -3);
        x.advance(1);
        Checks.due("forecast(1) a day later", x.forecast(1), 201);
        for (int i = 0; i < 33; i++) x.advance(60);
        x.advance(19);
        Checks.due("today()", x.today(), 2000);
        Checks.due("forecast(2) on day 2000", x.forecast(2), 2000);
        x.window(17, 1);
        x.offer(0, 1, 5);
        x.terms(3, 3, 0);
        Checks.due("forecast(3): past the last day that may come", x.forecast(3), 2006);
    }

    private static void promise29ForecastWhateverTheState() {
        ConditionEscrow x = new ConditionEscrow(2);
        x.after(9);
        x.after(3);
        x.gate(1);
        for (int deal = 0; deal < 3; deal++) x.offer(0, 1, 5);
        for (int deal = 0; deal < 3; deal++) x.terms(deal, deal, 1);
        x.cancel(0);
        x.deposit(0, 10);
        Checks.due("forecast(0), cancelled with terms", x.forecast(0), 9);
        Checks.due("forecast(1), held", x.forecast(1), 3);
        x.advance(4);
        Checks.due("state(1)", x.state(1), ConditionEscrow.RELEASED);
        Checks.due("forecast(1), released", x.forecast(1), 4);
        Checks.due("state(2)", x.state(2), ConditionEscrow.REFUNDED);
        Checks.due("forecast(2), refunded", x.forecast(2), -3);
    }

    private static void promise29ForecastKeepsMarks() {
        ConditionEscrow x = new ConditionEscrow(2);
        x.signer(2);
        x.after(4);
        x.gate(2);
        x.link(2, 0, 1);
        x.link(2, 1, 1);
        x.offer(0, 1, 5);
        x.terms(0, 2, 0);
        Checks.due("forecast(0) with the mark off", x.forecast(0), -3);
        x.mark(2, 1);
        Checks.due("forecast(0) with the mark on", x.forecast(0), 4);
        x.link(2, 1, -1);
        Checks.due("forecast(0) with a further input", x.forecast(0), -3);
    }

    private static void objectsAreApart() {
        ConditionEscrow x = new ConditionEscrow(2);
        ConditionEscrow y = new ConditionEscrow(3);
        x.signer(0);
        x.mark(0, 1);
        x.deposit(0, 5);
        x.advance(3);
        x.offer(0, 1, 1);
        Checks.due("y.nodes()", y.nodes(), 0);
        Checks.due("y.balance(0)", y.balance(0), 0);
        Checks.due("y.today()", y.today(), 0);
        Checks.due("y.deals()", y.deals(), 0);
        y.signer(0);
        Checks.due("y.truth(0)", y.truth(0), 0);
        Checks.due("x.truth(0)", x.truth(0), 1);
    }
}
