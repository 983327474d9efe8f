import java.util.List;
import java.util.function.Consumer;
import java.util.function.Function;

/**
 * "No question changes anything. A refused call changes nothing.", for every method and every way to refuse: after
 * such a call an object answers all that the model answers, which never got that call.
 */
public final class UnchangedTest {
    private static final Function<Object, Calls> FRESH = States::fresh;
    private static final Function<Object, Calls> MIDDLE = States::middle;
    private static final Function<Object, Calls> FULL = States::full;
    private static final Function<Object, Calls> LAST_DAY = States::fullOnTheLastDay;
    private static final Function<Object, Calls> ENDED = States::ended;

    // Where all is full at once, a wrong change might find no room; so one thing alone is full in each of these.
    private static final Function<Object, Calls> NO_NODE_LEFT = middleAnd(17, "gate(1)");
    private static final Function<Object, Calls> NO_INPUT_LEFT = middleAnd(3, "link(6, 1, 1)");
    private static final Function<Object, Calls> NO_DEPOSIT_LEFT = middleAnd(37, "deposit(2, 1)");
    private static final Function<Object, Calls> NO_DEAL_LEFT = middleAnd(6, "offer(0, 1, 5)");
    private static final Function<Object, Calls> FEW_DAYS_LEFT = middleAnd(33, "advance(60)");

    private static final String REFUSED = "A refused call changes nothing";
    private static final String ASKED = "No question changes anything";

    public static void main(String[] args) {
        Checks.promise(2, REFUSED, UnchangedTest::refusedSigner);
        Checks.promise(3, REFUSED, UnchangedTest::refusedAfter);
        Checks.promise(4, REFUSED, UnchangedTest::refusedWindow);
        Checks.promise(5, REFUSED, UnchangedTest::refusedGate);
        Checks.promise(6, REFUSED, UnchangedTest::refusedLink);
        Checks.promise(7, REFUSED, UnchangedTest::refusedMark);
        Checks.promise(8, REFUSED, UnchangedTest::refusedDeposit);
        Checks.promise(9, REFUSED, UnchangedTest::refusedOffer);
        Checks.promise(10, REFUSED, UnchangedTest::refusedTerms);
        Checks.promise(11, REFUSED, UnchangedTest::refusedCancel);
        Checks.promise(12, REFUSED, UnchangedTest::refusedAdvance);
        Checks.promise(13, ASKED, () -> asked("today()"));
        Checks.promise(14, ASKED, () -> asked("nodes()"));
        Checks.promise(15, ASKED, () -> asked("truth(-1) truth(0) truth(1) truth(3) truth(6) truth(23) truth(24)"));
        Checks.promise(16, ASKED, () -> asked("score(-1) score(0) score(1) score(6) score(23) score(24)"));
        Checks.promise(17, ASKED, () -> asked("deals()"));
        Checks.promise(18, ASKED, () -> asked("state(-1) state(0) state(1) state(5) state(11) state(12)"));
        Checks.promise(19, ASKED, () -> asked("balance(-1) balance(0) balance(1) balance(2) balance(3)"));
        Checks.promise(20, ASKED, () -> asked("held()"));
        Checks.promise(21, ASKED, () -> asked("entries()"));
        Checks.promise(22, ASKED, () -> asked("entryKind(-1) entryKind(0) entryKind(5) entryKind(64)"));
        Checks.promise(23, ASKED, () -> asked("entryAccount(-1) entryAccount(0) entryAccount(5) entryAccount(64)"));
        Checks.promise(24, ASKED, () -> asked("entryAmount(-1) entryAmount(0) entryAmount(5) entryAmount(64)"));
        Checks.promise(25, ASKED, () -> asked("entryDeal(-1) entryDeal(0) entryDeal(5) entryDeal(64)"));
        Checks.promise(26, ASKED, () -> asked("entryDay(-1) entryDay(0) entryDay(5) entryDay(64)"));
        Checks.promise(27, ASKED, () -> asked("balanceOn(-1, 0) balanceOn(0, MIN) balanceOn(0, 2) balanceOn(1, MAX)"));
        Checks.promise(28, ASKED, () -> asked("lowest(-1, 0, 0) lowest(0, 0, 65) lowest(0, 1, 0) lowest(0, 0, 4) lowest(1, 2, 4)"));
        Checks.promise(29, ASKED, () -> asked("forecast(-1) forecast(0) forecast(1) forecast(3) forecast(4) forecast(12)"));
        Checks.end();
    }

    private static Function<Object, Calls> middleAnd(int times, String calls) {
        return object -> {
            Calls x = States.middle(object);
            x.taken(times, calls);
            return x;
        };
    }

    private static void refusedSigner() {
        refused(FRESH, -1, "signer(-1) signer(8) signer(MIN) signer(MAX)");
        refused(MIDDLE, -1, "signer(-1) signer(8) signer(MIN) signer(MAX)");
        refused(NO_NODE_LEFT, -2, "signer(0) signer(7)");
        refused(FULL, -2, "signer(0) signer(7)");
    }

    private static void refusedAfter() {
        refused(FRESH, -1, "after(-1) after(1001) after(MIN) after(MAX)");
        refused(MIDDLE, -1, "after(-1) after(1001) after(MIN) after(MAX)");
        refused(NO_NODE_LEFT, -2, "after(0) after(1000)");
        refused(FULL, -2, "after(0) after(1000)");
    }

    private static void refusedWindow() {
        refused(FRESH, -1, "window(1, 1) window(21, 1) window(MIN, 1) window(MAX, 1)");
        refused(MIDDLE, -1, "window(1, 1) window(21, 1) window(MIN, 1) window(MAX, 1)");
        refused(MIDDLE, -2, "window(7, 0) window(7, 7) window(7, MIN) window(7, MAX)");
        refused(NO_NODE_LEFT, -3, "window(2, 1) window(20, 19)");
        refused(FULL, -3, "window(2, 1) window(20, 19)");
    }

    private static void refusedGate() {
        refused(FRESH, -1, "gate(-21) gate(21) gate(MIN) gate(MAX)");
        refused(MIDDLE, -1, "gate(-21) gate(21) gate(MIN) gate(MAX)");
        refused(NO_NODE_LEFT, -2, "gate(0) gate(20) gate(-20)");
        refused(FULL, -2, "gate(0) gate(20) gate(-20)");
    }

    private static void refusedLink() {
        refused(FRESH, -1, "link(0, 0, 1)");
        refused(MIDDLE, -1, "link(-1, 0, 1) link(2, 0, 1) link(5, 0, 1) link(7, 0, 1) link(MAX, 0, 1)");
        refused(MIDDLE, -2, "link(6, -1, 5) link(6, 6, 5) link(1, 2, 5) link(6, MIN, 5) link(6, MAX, 5)");
        refused(MIDDLE, -3, "link(6, 0, 0) link(6, 0, 6) link(6, 0, -6) link(6, 0, MIN) link(6, 0, MAX)");
        refused(NO_INPUT_LEFT, -4, "link(6, 0, 5) link(6, 0, -5)");
        refused(FULL, -4, "link(6, 0, 5) link(6, 0, -5) link(23, 0, 1)");
    }

    private static void refusedMark() {
        refused(FRESH, -1, "mark(-1, 1) mark(8, 1) mark(8, 0)");
        refused(MIDDLE, -1, "mark(-1, 1) mark(8, 1) mark(-1, 0) mark(8, 0) mark(MIN, 1) mark(MAX, 1)");
    }

    private static void refusedDeposit() {
        refused(FRESH, -1, "deposit(-1, 5) deposit(3, 5)");
        refused(MIDDLE, -1, "deposit(-1, 5) deposit(3, 5) deposit(MIN, 5) deposit(MAX, 5)");
        refused(MIDDLE, -2, "deposit(0, 0) deposit(0, -5) deposit(0, 1001) deposit(0, MIN) deposit(0, MAX)");
        refused(NO_DEPOSIT_LEFT, -3, "deposit(0, 5) deposit(1, 1) deposit(2, 1000)");
        refused(FULL, -3, "deposit(0, 5) deposit(1, 1) deposit(2, 1000)");
        refused(ENDED, -3, "deposit(0, 10) deposit(1, 10)");
    }

    private static void refusedOffer() {
        refused(FRESH, -1, "offer(-1, 0, 5) offer(0, 3, 5)");
        refused(MIDDLE, -1, "offer(-1, 0, 5) offer(3, 0, 5) offer(0, -1, 5) offer(0, 3, 5) offer(MIN, MAX, 5)");
        refused(MIDDLE, -2, "offer(0, 0, 5) offer(2, 2, 5)");
        refused(MIDDLE, -3, "offer(0, 1, 0) offer(0, 1, 1001) offer(0, 1, MIN) offer(0, 1, MAX)");
        refused(NO_DEAL_LEFT, -4, "offer(0, 1, 5) offer(2, 1, 1000)");
        refused(FULL, -4, "offer(0, 1, 5) offer(2, 1, 1000)");
    }

    private static void refusedTerms() {
        refused(FRESH, -1, "terms(0, 0, 0)");
        refused(MIDDLE, -1, "terms(-1, 0, 0) terms(6, 0, 0) terms(MIN, 0, 0) terms(MAX, 0, 0)");
        refused(MIDDLE, -2, "terms(1, 0, 0) terms(2, 0, 0) terms(3, 0, 0) terms(4, 0, 0) terms(5, 0, 0)");
        refused(MIDDLE, -3, "terms(0, -1, 0) terms(0, 7, 0) terms(0, 0, -1) terms(0, 0, 7) terms(0, MIN, MAX)");
        refused(FULL, -2, "terms(1, 0, 0) terms(2, 0, 0) terms(3, 1, 1) terms(4, 1, 1) terms(5, 0, 0)");
        refused(FULL, -3, "terms(0, 24, 0) terms(0, 0, 24)");
    }

    private static void refusedCancel() {
        refused(FRESH, -1, "cancel(0)");
        refused(MIDDLE, -1, "cancel(-1) cancel(6) cancel(MIN) cancel(MAX)");
        refused(MIDDLE, -2, "cancel(2) cancel(3) cancel(4) cancel(5)");
        refused(ENDED, -2, "cancel(0) cancel(1) cancel(11)");
    }

    private static void refusedAdvance() {
        refused(FRESH, -1, "advance(0) advance(-1) advance(61) advance(MIN) advance(MAX)");
        refused(MIDDLE, -1, "advance(0) advance(-1) advance(61) advance(MIN) advance(MAX)");
        refused(FEW_DAYS_LEFT, -2, "advance(18) advance(60)");
        refused(FULL, -2, "advance(16) advance(60)");
        refused(LAST_DAY, -2, "advance(1) advance(60)");
    }

    // Each call is tried alone, since two wrong changes might undo each other.

    private static void refused(Function<Object, Calls> state, int code, String calls) {
        for (String call : Calls.each(calls)) changesNothing(state, call, tried -> tried.due(code, call));
    }

    private static void asked(String questions) {
        for (Function<Object, Calls> state : List.of(FRESH, MIDDLE, FULL, ENDED)) {
            for (String question : Calls.each(questions)) changesNothing(state, question, tried -> tried.answer(question));
        }
    }

    private static void changesNothing(Function<Object, Calls> state, String call, Consumer<Calls> trial) {
        for (String look : List.of(call, entryQuestions(), otherQuestions(), furtherCalls())) {
            Calls tried = state.apply(new ConditionEscrow(States.ACCOUNTS));
            Calls untried = state.apply(new Model(States.ACCOUNTS));
            trial.accept(tried);
            Calls.same(tried, untried, look);
        }
    }

    // An object has 512 calls, too few for all at once: so the looks are three, each taken on objects of its own.

    private static String entryQuestions() {
        StringBuilder all = new StringBuilder("entries() ");
        for (int i = -1; i <= 64; i++) {
            all.append("entryKind(i) entryAccount(i) entryAmount(i) entryDeal(i) entryDay(i) ".replace("(i)", "(" + i + ")"));
        }
        return all.toString();
    }

    private static String otherQuestions() {
        StringBuilder all = new StringBuilder("today() nodes() deals() held() entries() ");
        for (int node = 0; node <= 24; node++) all.append("truth(n) score(n) ".replace("n)", node + ")"));
        for (int deal = 0; deal <= 12; deal++) all.append("state(d) forecast(d) ".replace("d)", deal + ")"));
        for (int account = 0; account <= States.ACCOUNTS; account++) {
            all.append("balance(a) balanceOn(a, 0) balanceOn(a, 2) balanceOn(a, MAX) ".replace("(a", "(" + account));
            all.append("lowest(a, 0, 0) lowest(a, 0, 4) lowest(a, 4, 8) ".replace("(a", "(" + account));
        }
        return all.toString();
    }

    /** Calls that bring out what no question shows, such as how many inputs or deposits there is still room for. */
    private static String furtherCalls() {
        StringBuilder all = new StringBuilder();
        for (int i = 0; i < 7; i++) all.append("link(1, 0, 1) link(6, 0, 1) link(23, 0, 1) score(1) score(6) score(23) truth(6) ");
        all.append("window(5, 2) signer(7) after(2) gate(1) gate(1) nodes() ");
        for (int node = 0; node <= 24; node++) all.append("truth(" + node + ") ");
        for (int deal = 0; deal <= 12; deal++) all.append("offer(0, 1, 5) terms(" + deal + ", 6, 1) ");
        for (int i = 0; i <= 40; i++) all.append("deposit(0, 5) ");
        for (int s = 0; s < 8; s++) all.append("mark(" + s + ", 1) ");
        for (int day = 0; day < 8; day++) all.append("advance(1) truth(4) truth(6) ");
        all.append("held() entries() today() ");
        for (int deal = 0; deal <= 12; deal++) all.append("cancel(" + deal + ") state(" + deal + ") forecast(" + deal + ") ");
        all.append("balance(0) balance(1) balance(2) lowest(0, 0, 20) balanceOn(0, 3)");
        return all.toString();
    }
}
