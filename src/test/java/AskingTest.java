import java.util.ArrayList;
import java.util.List;

/**
 * What only asks, and what is refused, leaves nothing behind: each call of a long run must answer what it
 * answers on an object that has had nothing but the run's changes.
 */
public final class AskingTest {
    private static final int RUNS = 90;
    private static final int CALLS = 512;

    public static void main(String[] args) {
        Numbers numbers = new Numbers(11);
        for (int run = 0; run < RUNS; run++) {
            Due.under("run " + run + ": ");
            run(numbers, AnyCall.ONE_IS_WILD_OF[run % 3]);
        }
        Due.end();
    }

    private static void run(Numbers numbers, int oneIsWildOf) {
        OhmNets x = new OhmNets();
        List<AnyCall> changes = new ArrayList<>();
        for (int i = 0; i < CALLS; i++) {
            AnyCall call = AnyCall.next(numbers, oneIsWildOf);
            long answer = call.on(x);
            Due.due("call " + i + ", " + call + ", after " + changes + " and calls that change nothing", answer,
                call.on(after(changes)));
            if (call.canChange() && !call.isRefusedBy(answer)) {
                changes.add(call);
            }
        }
    }

    private static OhmNets after(List<AnyCall> changes) {
        OhmNets x = new OhmNets();
        for (AnyCall change : changes) {
            change.on(x);
        }
        return x;
    }
}
