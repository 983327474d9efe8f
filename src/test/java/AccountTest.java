/** Promises 1, 13, 19 and 21 to 29, sentence by sentence: accounts, entries, and the questions that look back or ahead. */
public final class AccountTest {
    public static void main(String[] args) {
        Checks.promise(1, "below 2 becomes 2", AccountTest::tooFewAccounts);
        Checks.promise(1, "above 6 becomes 6", AccountTest::tooManyAccounts);
        Checks.promise(13, "The number of today", AccountTest::todayFromFirstToLast);
        Checks.promise(19, "The account's balance", AccountTest::balanceFollowsTheMoves);
        Checks.promise(19, "The account's balance", AccountTest::balanceMayReach40000);
        Checks.promise(19, "-1 if there is no such account", AccountTest::balanceOfNoAccount);
        Checks.promise(21, "How many entries there are", AccountTest::entriesFromNoneOn);
        Checks.promise(22, "The kind of entry i", AccountTest::kindsOfEntries);
        Checks.promise(22, "-1 if there is no such entry", () -> noSuchEntry("entryKind", -1));
        Checks.promise(23, "The account of entry i", AccountTest::accountsOfEntries);
        Checks.promise(23, "-1 if there is no such entry", () -> noSuchEntry("entryAccount", -1));
        Checks.promise(24, "The amount of entry i", AccountTest::amountsOfEntries);
        Checks.promise(24, "-1 if there is no such entry", () -> noSuchEntry("entryAmount", -1));
        Checks.promise(25, "The number of the deal of entry i, -1 for a deposit", AccountTest::dealsOfEntries);
        Checks.promise(25, "-2 if there is no such entry", () -> noSuchEntry("entryDeal", -2));
        Checks.promise(26, "The day of entry i", AccountTest::daysOfEntries);
        Checks.promise(26, "-1 if there is no such entry", () -> noSuchEntry("entryDay", -1));
        Checks.promise(27, "after all entries up to and with the given day", AccountTest::balanceOnDaysOfEntries);
        Checks.promise(27, "any int", AccountTest::balanceOnAnyInt);
        Checks.promise(27, "0 for days before the first entry", AccountTest::balanceBeforeTheFirstEntry);
        Checks.promise(27, "the balance now for days from today on", AccountTest::balanceFromTodayOn);
        Checks.promise(27, "-1 if there is no such account", AccountTest::balanceOnOfNoAccount);
        Checks.promise(28, "The least balance that the account had after the first k entries", AccountTest::lowestOfEveryRange);
        Checks.promise(28, "over all k in i .. j", AccountTest::lowestTakesBothEnds);
        Checks.promise(28, "over all k in i .. j", AccountTest::lowestOfOneK);
        Checks.promise(28, "-1 if there is no such account", AccountTest::lowestOfNoAccount);
        Checks.promise(28, "-2 unless 0 <= i <= j <= entries()", AccountTest::lowestFromBelowZero);
        Checks.promise(28, "-2 unless 0 <= i <= j <= entries()", AccountTest::lowestOfNoRange);
        Checks.promise(28, "-2 unless 0 <= i <= j <= entries()", AccountTest::lowestPastTheEntries);
        Checks.promise(28, "-2 unless 0 <= i <= j <= entries()", AccountTest::lowestWithoutEntries);
        Checks.promise(29, "The first day t in today .. today + 200", AccountTest::forecastOfToday);
        Checks.promise(29, "The first day t in today .. today + 200", AccountTest::forecastOfTheFirstDay);
        Checks.promise(29, "The first day t in today .. today + 200", AccountTest::forecastIn200Days);
        Checks.promise(29, "The first day t in today .. today + 200", AccountTest::forecastPastDay2000);
        Checks.promise(29, "on which the deal's release node would be true", AccountTest::forecastIsOfTheReleaseNode);
        Checks.promise(29, "if all marks, nodes and inputs stayed as they are now", AccountTest::forecastKeepsMarksAndInputs);
        Checks.promise(29, "the deal's state plays no part", AccountTest::forecastInEveryState);
        Checks.promise(29, "-1 if there is no such deal", AccountTest::forecastOfNoDeal);
        Checks.promise(29, "-2 if it never got terms", AccountTest::forecastWithoutTerms);
        Checks.promise(29, "-3 if there is no such day", AccountTest::forecastOfNever);
        Checks.end();
    }

    private static void twoAccountsOf(int accounts) {
        Calls x = new Calls(accounts);
        x.due(0, "balance(0) balance(1) deposit(1, 3) offer(0, 1, 3)");
        x.due(-1, "balance(2) deposit(2, 3) offer(0, 2, 3)");
    }

    private static void tooFewAccounts() {
        int[] asked = {1, 0, -1, -6, Integer.MIN_VALUE, Integer.MIN_VALUE + 2};
        for (int accounts : asked) twoAccountsOf(accounts);
        twoAccountsOf(2);
    }

    private static void sixAccountsOf(int accounts) {
        Calls x = new Calls(accounts);
        x.due(0, "balance(0) balance(5) deposit(5, 3) offer(0, 5, 3)");
        x.due(-1, "balance(6) deposit(6, 3) offer(0, 6, 3)");
    }

    private static void tooManyAccounts() {
        int[] asked = {7, 8, 100, Integer.MAX_VALUE};
        for (int accounts : asked) sixAccountsOf(accounts);
        sixAccountsOf(6);
    }

    private static void todayFromFirstToLast() {
        Calls x = new Calls(2);
        x.due(0, "today()");
        x.taken("advance(1)");
        x.due(1, "today()");
        x.taken("deposit(0, 1) mark(0, 1) after(1)");
        x.due(1, "today()");
        x.taken("advance(60)");
        x.due(61, "today()");
        x.untilDay(2000);
        x.due(2000, "today()");
    }

    private static void balanceFollowsTheMoves() {
        Calls x = new Calls(3);
        x.taken("signer(0) signer(1) offer(0, 1, 30) offer(0, 2, 20) terms(0, 0, 1) terms(1, 1, 0) deposit(0, 49)");
        x.due(19, "balance(0)");
        x.taken("deposit(0, 1)");
        x.due(0, "balance(0) balance(1) balance(2)");
        x.taken("mark(0, 1)");
        x.due(20, "balance(0)");
        x.due(30, "balance(1)");
        x.due(0, "balance(2)");
    }

    private static void balanceMayReach40000() {
        Calls x = new Calls(2);
        for (int count = 1; count <= 40; count++) {
            x.taken("deposit(1, 1000)");
            x.due(1000 * count, "balance(1)");
        }
        x.due(0, "balance(0)");
        x.due(40000, "balanceOn(1, 0) lowest(1, 40, 40)");
    }

    private static void balanceOfNoAccount() {
        Calls x = new Calls(3);
        x.due(-1, "balance(-1) balance(3) balance(5) balance(6) balance(MIN) balance(MAX)");
        x.due(0, "balance(0) balance(2)");
    }

    private static void entriesFromNoneOn() {
        Calls x = new Calls(2);
        x.taken("signer(0) gate(1) offer(0, 1, 5)");
        x.due(0, "entries()");
        x.taken("deposit(0, 5)");
        x.due(1, "entries()");
        x.taken("terms(0, 0, 1)");
        x.due(2, "entries()");
        x.taken("mark(0, 1)");
        x.due(3, "entries()");
        x.taken("mark(0, 0) advance(1) offer(0, 1, 5) cancel(1)");
        x.due(3, "entries()");
    }

    /** Six entries: four days, all four kinds, on accounts 0 to 2 of 4; today is day 12. */
    private static Calls withSixEntries() {
        Calls x = new Calls(4);
        x.taken("after(5) after(8) gate(1) offer(0, 1, 30) offer(1, 2, 25) terms(0, 0, 2) terms(1, 2, 1)");
        x.taken("advance(2) deposit(0, 40) advance(10) deposit(2, 7)");
        x.due(6, "entries()");
        return x;
    }

    private static void dueOfEntries(String question, int... wants) {
        Calls x = withSixEntries();
        for (int i = 0; i < wants.length; i++) x.due(wants[i], question + "(" + i + ")");
    }

    private static void kindsOfEntries() {
        int deposit = ConditionEscrow.DEPOSIT;
        int fund = ConditionEscrow.FUND;
        dueOfEntries("entryKind", deposit, fund, ConditionEscrow.RELEASE, fund, ConditionEscrow.REFUND, deposit);
    }

    private static void accountsOfEntries() {
        dueOfEntries("entryAccount", 0, 0, 1, 1, 1, 2);
    }

    private static void amountsOfEntries() {
        dueOfEntries("entryAmount", 40, 30, 30, 25, 25, 7);
    }

    private static void dealsOfEntries() {
        dueOfEntries("entryDeal", -1, 0, 0, 1, 1, -1);
    }

    private static void daysOfEntries() {
        dueOfEntries("entryDay", 2, 2, 5, 5, 8, 12);
    }

    private static void noSuchEntry(String question, int want) {
        int[] never = {-1, 64, 65, Integer.MIN_VALUE, Integer.MAX_VALUE};
        Calls[] objects = {new Calls(2), withSixEntries(), withAllEntries()};
        int[] counts = {0, 6, 64};
        for (int k = 0; k < objects.length; k++) {
            objects[k].due(want, question + "(" + counts[k] + ")");
            for (int i : never) objects[k].due(want, question + "(" + i + ")");
            if (k > 0) Checks.holds("there is a last entry for " + question, objects[k].answerOf(question, counts[k] - 1) != want);
        }
    }

    private static Calls withAllEntries() {
        return States.ended(new ConditionEscrow(States.ACCOUNTS));
    }

    private static void balanceOnDaysOfEntries() {
        Calls x = withSixEntries();
        int[] days = {0, 1, 2, 3, 4, 5, 6, 7, 8, 9, 11, 12};
        int[][] balances = {
            {0, 0, 10, 10, 10, 10, 10, 10, 10, 10, 10, 10},
            {0, 0, 0, 0, 0, 5, 5, 5, 30, 30, 30, 30},
            {0, 0, 0, 0, 0, 0, 0, 0, 0, 0, 0, 7},
            {0, 0, 0, 0, 0, 0, 0, 0, 0, 0, 0, 0},
        };
        for (int account = 0; account < 4; account++) {
            for (int i = 0; i < days.length; i++) x.due(balances[account][i], "balanceOn(" + account + ", " + days[i] + ")");
        }
    }

    private static void balanceOnAnyInt() {
        Calls x = withSixEntries();
        x.due(0, "balanceOn(0, MIN) balanceOn(0, -2147483647) balanceOn(0, -2000) balanceOn(0, -1)");
        x.due(10, "balanceOn(0, 2000) balanceOn(0, 2001) balanceOn(0, 2147483646) balanceOn(0, MAX)");
    }

    private static void balanceBeforeTheFirstEntry() {
        Calls x = new Calls(2);
        x.due(0, "balanceOn(0, 0) balanceOn(0, -1) balanceOn(0, 1) balanceOn(0, MIN) balanceOn(0, MAX)");
        x.taken("advance(9) deposit(0, 40) advance(3)");
        x.due(0, "balanceOn(0, 8) balanceOn(0, 0) balanceOn(0, -1) balanceOn(0, MIN)");
        x.due(40, "balanceOn(0, 9) balanceOn(0, 10)");
        // An entry on day 0 leaves only the days below 0 before it.
        Calls y = new Calls(2);
        y.taken("deposit(0, 40)");
        y.due(0, "balanceOn(0, -1) balanceOn(0, MIN)");
        y.due(40, "balanceOn(0, 0)");
    }

    private static void balanceFromTodayOn() {
        Calls x = withSixEntries();
        x.taken("deposit(1, 3)");
        for (int account = 0; account < 4; account++) {
            int now = x.answerOf("balance", account);
            x.due(now, "balanceOn(" + account + ", 12) balanceOn(" + account + ", 13) balanceOn(" + account + ", MAX)");
        }
        x.due(30, "balanceOn(1, 11)");
        x.due(33, "balanceOn(1, 12)");
    }

    private static void balanceOnOfNoAccount() {
        Calls x = withSixEntries();
        x.due(-1, "balanceOn(-1, 5) balanceOn(4, 5) balanceOn(6, 5) balanceOn(MIN, 5) balanceOn(MAX, 5)");
        x.due(-1, "balanceOn(-1, MIN) balanceOn(4, MAX)");
        x.due(0, "balanceOn(3, 5)");
    }

    private static void lowestOfEveryRange() {
        Calls x = withSixEntries();
        int[][] balances = {
            {0, 40, 10, 10, 10, 10, 10},
            {0, 0, 0, 30, 5, 30, 30},
            {0, 0, 0, 0, 0, 0, 7},
            {0, 0, 0, 0, 0, 0, 0},
        };
        for (int account = 0; account < balances.length; account++) {
            for (int i = 0; i <= 6; i++) {
                int least = balances[account][i];
                for (int j = i; j <= 6; j++) {
                    least = Math.min(least, balances[account][j]);
                    x.due(least, "lowest(" + account + ", " + i + ", " + j + ")");
                }
            }
        }
    }

    private static void lowestTakesBothEnds() {
        Calls x = withSixEntries();
        // Account 1 has 30 after three entries, 5 after four, 30 after five.
        x.due(5, "lowest(1, 4, 5) lowest(1, 3, 4) lowest(1, 3, 5)");
        x.due(30, "lowest(1, 3, 3) lowest(1, 5, 6)");
        x.due(0, "lowest(1, 2, 5) lowest(0, 0, 6)");
        x.due(7, "lowest(2, 6, 6)");
        x.due(0, "lowest(2, 5, 6)");
    }

    private static void lowestOfOneK() {
        Calls x = withSixEntries();
        int[] balances = {0, 40, 10, 10, 10, 10, 10};
        for (int k = 0; k <= 6; k++) x.due(balances[k], "lowest(0, " + k + ", " + k + ")");
    }

    private static void lowestOfNoAccount() {
        Calls x = withSixEntries();
        x.due(-1, "lowest(-1, 0, 0) lowest(4, 0, 0) lowest(6, 0, 6) lowest(MIN, 0, 0) lowest(MAX, 0, 0)");
        x.due(0, "lowest(3, 0, 0)");
    }

    private static void lowestFromBelowZero() {
        Calls x = withSixEntries();
        x.due(-2, "lowest(0, -1, 0) lowest(0, -1, -1) lowest(0, -1, 6) lowest(0, MIN, 0) lowest(0, MIN, MIN) lowest(0, MIN, MAX)");
        x.due(0, "lowest(0, 0, 0)");
    }

    private static void lowestOfNoRange() {
        Calls x = withSixEntries();
        x.due(-2, "lowest(0, 1, 0) lowest(0, 6, 5) lowest(0, 0, -1) lowest(0, 0, MIN) lowest(0, MAX, MIN) lowest(0, MAX, 6)");
        x.due(10, "lowest(0, 5, 5) lowest(0, 5, 6)");
    }

    private static void lowestPastTheEntries() {
        Calls x = withSixEntries();
        x.due(-2, "lowest(0, 0, 7) lowest(0, 6, 7) lowest(0, 7, 7) lowest(0, 0, MAX) lowest(0, MAX, MAX)");
        x.due(10, "lowest(0, 6, 6)");
        Calls full = withAllEntries();
        full.due(-2, "lowest(0, 0, 65) lowest(0, 64, 65) lowest(0, 65, 65)");
        full.due(340, "lowest(0, 64, 64)");
        full.due(60, "lowest(1, 64, 64)");
    }

    private static void lowestWithoutEntries() {
        Calls x = new Calls(2);
        x.due(0, "lowest(0, 0, 0) lowest(1, 0, 0)");
        x.due(-2, "lowest(0, 0, 1) lowest(0, 1, 1) lowest(0, -1, 0) lowest(0, 1, 0)");
    }

    private static Calls withDealReleasedBy(String node) {
        Calls x = new Calls(2);
        x.taken(node + " gate(20) offer(0, 1, 5) terms(0, 0, 1)");
        return x;
    }

    private static void forecastOfToday() {
        Calls x = withDealReleasedBy("after(3)");
        x.untilDay(2);
        x.due(3, "forecast(0)");
        x.taken("advance(1)");
        x.due(3, "forecast(0)");
        x.taken("advance(1)");
        x.due(4, "forecast(0)");
        x.untilDay(2000);
        x.due(2000, "forecast(0)");
    }

    private static void forecastOfTheFirstDay() {
        Calls x = new Calls(2);
        x.taken("window(7, 2) after(20) gate(2) link(2, 0, 1) link(2, 1, 1)");
        for (int deal = 0; deal < 3; deal++) x.taken("offer(0, 1, 5) terms(" + deal + ", " + deal + ", 0)");
        for (int day = 0; day <= 60; day++) {
            int open = day % 7 <= 1 ? day : day + 7 - day % 7;
            x.due(open, "forecast(0)");
            x.due(Math.max(day, 20), "forecast(1)");
            x.due(Math.max(open, 21), "forecast(2)");
            x.taken("advance(1)");
        }
    }

    private static void forecastIn200Days() {
        Calls x = withDealReleasedBy("after(201)");
        x.due(-3, "forecast(0)");
        x.taken("advance(1)");
        x.due(201, "forecast(0)");
        Calls y = withDealReleasedBy("after(1000)");
        y.untilDay(799);
        y.due(-3, "forecast(0)");
        y.taken("advance(1)");
        y.due(1000, "forecast(0)");
        Calls z = withDealReleasedBy("after(200)");
        z.due(200, "forecast(0)");
    }

    private static void forecastPastDay2000() {
        Calls x = withDealReleasedBy("window(17, 1)");
        x.untilDay(1989);
        x.due(1989, "forecast(0)");
        x.taken("advance(1)");
        x.due(2006, "forecast(0)");
        x.taken("advance(10)");
        x.due(2006, "forecast(0)");
        // Both windows are open together every 220 days: on day 1980, and next on day 2200.
        Calls y = new Calls(2);
        y.taken("window(11, 1) window(20, 1) gate(2) link(2, 0, 1) link(2, 1, 1) offer(0, 1, 5) terms(0, 2, 0)");
        y.untilDay(1999);
        y.due(-3, "forecast(0)");
        y.taken("advance(1)");
        y.due(2200, "forecast(0)");
    }

    private static void forecastIsOfTheReleaseNode() {
        Calls x = new Calls(2);
        x.taken("after(9) after(3) offer(0, 1, 5) offer(0, 1, 5) terms(0, 0, 1) terms(1, 1, 0)");
        x.due(9, "forecast(0)");
        x.due(3, "forecast(1)");
    }

    private static void forecastKeepsMarksAndInputs() {
        Calls x = new Calls(2);
        x.taken("signer(2) after(4) gate(2) link(2, 0, 1) link(2, 1, 1) offer(0, 1, 5) terms(0, 2, 0)");
        x.due(-3, "forecast(0)");
        x.taken("mark(2, 1)");
        x.due(4, "forecast(0)");
        x.taken("link(2, 1, -1)");
        x.due(-3, "forecast(0)");
        x.taken("link(2, 0, 1)");
        x.due(0, "forecast(0)");
        x.taken("mark(2, 0)");
        x.due(-3, "forecast(0)");
    }

    private static void forecastInEveryState() {
        Calls x = new Calls(2);
        x.taken("after(9) after(3) gate(1) offer(0, 1, 5) offer(0, 1, 5) offer(0, 1, 5) offer(0, 1, 1000) offer(0, 1, 5)");
        x.taken("terms(0, 0, 2) terms(1, 1, 2) terms(2, 0, 1) terms(3, 0, 1) terms(4, 0, 1) cancel(4) deposit(0, 15) advance(4)");
        int[] states = {
            ConditionEscrow.HELD, ConditionEscrow.RELEASED, ConditionEscrow.REFUNDED, ConditionEscrow.WAITING, ConditionEscrow.CANCELLED,
        };
        int[] firsts = {9, 4, 9, 9, 9};
        for (int deal = 0; deal < 5; deal++) {
            x.due(states[deal], "state(" + deal + ")");
            x.due(firsts[deal], "forecast(" + deal + ")");
        }
    }

    private static void forecastOfNoDeal() {
        Calls x = new Calls(2);
        x.due(-1, "forecast(0) forecast(-1)");
        x.taken("after(0) offer(0, 1, 5) offer(0, 1, 5) terms(0, 0, 0) terms(1, 0, 0)");
        x.due(0, "forecast(0) forecast(1)");
        x.due(-1, "forecast(-1) forecast(2) forecast(11) forecast(12) forecast(MIN) forecast(MAX)");
    }

    private static void forecastWithoutTerms() {
        Calls x = new Calls(2);
        x.taken("offer(0, 1, 5)");
        x.due(-2, "forecast(0)");
        x.taken("after(0) offer(0, 1, 5)");
        x.due(-2, "forecast(0) forecast(1)");
        x.taken("cancel(0)");
        x.due(-2, "forecast(0)");
        x.taken("terms(1, 0, 0)");
        x.due(0, "forecast(1)");
        x.due(-2, "forecast(0)");
    }

    private static void forecastOfNever() {
        Calls x = withDealReleasedBy("signer(0)");
        x.due(-3, "forecast(0)");
        x.taken("mark(0, 1)");
        x.due(0, "forecast(0)");
        withDealReleasedBy("gate(1)").due(-3, "forecast(0)");
        withDealReleasedBy("gate(0)").due(0, "forecast(0)");
        withDealReleasedBy("after(201)").due(-3, "forecast(0)");
        withDealReleasedBy("after(1000)").due(-3, "forecast(0)");
    }
}
