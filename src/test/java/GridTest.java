import java.util.Arrays;
import java.util.List;
import java.util.function.Function;

/**
 * Every method with every mix of numbers that stand at an edge somewhere in the document, in four states; the class is
 * to answer as the model does, and is to be in the same state after a call that it has taken.
 */
public final class GridTest {
    private static final int[] EDGES = {
        Integer.MIN_VALUE, Integer.MIN_VALUE + 1, -1001, -1000, -21, -20, -6, -5, -2, -1, 0, 1, 2, 3, 5, 6, 7, 8, 11, 12, 19, 20,
        21, 22, 23, 24, 31, 32, 60, 61, 63, 64, 65, 999, 1000, 1001, 1999, 2000, 2001, Integer.MAX_VALUE - 1, Integer.MAX_VALUE,
    };

    private static final String[] CHANGING = {
        "signer/1", "after/1", "window/2", "gate/1", "link/3", "mark/2", "deposit/2", "offer/3", "terms/3", "cancel/1", "advance/1",
    };
    private static final String[] QUESTIONS = {
        "today/0", "nodes/0", "truth/1", "score/1", "deals/0", "state/1", "balance/1", "held/0", "entries/0", "entryKind/1",
        "entryAccount/1", "entryAmount/1", "entryDeal/1", "entryDay/1", "balanceOn/2", "lowest/3", "forecast/1",
    };

    /** Calls that must be left for a look at the state. */
    private static final int CALLS_FOR_A_LOOK = 100;

    private final Function<Object, Calls> state;
    private Calls x;
    private Calls model;

    private GridTest(Function<Object, Calls> state) {
        this.state = state;
    }

    public static void main(String[] args) {
        List<Function<Object, Calls>> states = List.of(States::fresh, States::middle, States::fullOnTheLastDay, States::ended);
        for (Function<Object, Calls> state : states) {
            for (String method : CHANGING) new GridTest(state).allMixes(method, true);
            for (String method : QUESTIONS) new GridTest(state).allMixes(method, false);
        }
        Checks.end();
    }

    private void begin() {
        x = state.apply(new ConditionEscrow(States.ACCOUNTS));
        model = state.apply(new Model(States.ACCOUNTS));
    }

    private void allMixes(String method, boolean isChanging) {
        begin();
        String name = method.substring(0, method.indexOf('/'));
        int[] args = new int[method.charAt(method.length() - 1) - '0'];
        int mixes = 1;
        for (int i = 0; i < args.length; i++) mixes *= EDGES.length;
        for (int mix = 0; mix < mixes && Checks.allRight(); mix++) {
            int left = mix;
            for (int i = 0; i < args.length; i++) {
                args[i] = EDGES[left % EDGES.length];
                left /= EDGES.length;
            }
            int got = x.answerOf(name, args);
            Checks.due(name + Arrays.toString(args), got, model.answerOf(name, args));
            boolean isTaken = isChanging && got >= 0;
            if (isTaken) lookAtTheState();
            if (isTaken || x.made() + CALLS_FOR_A_LOOK > Calls.MOST_CALLS) begin();
        }
    }

    private void lookAtTheState() {
        StringBuilder look = new StringBuilder("today() nodes() deals() held() entries() ");
        int nodes = model.answer("nodes()");
        for (int node = 0; node < nodes; node++) look.append("truth(" + node + ") score(" + node + ") ");
        for (int deal = 0; deal < 12; deal++) look.append("state(" + deal + ") ");
        for (int account = 0; account < States.ACCOUNTS; account++) look.append("balance(" + account + ") ");
        int last = model.answer("entries()") - 1;
        look.append("entryKind(I) entryAccount(I) entryAmount(I) entryDeal(I) entryDay(I)".replace("I", "" + last));
        Calls.same(x, model, look.toString());
    }
}
