/** Long runs of any calls with any numbers: none throws, and what is refused changes nothing. */
public final class NeverThrowsTest {
    private static final int RUNS = 4000;
    // With two looks of 57 calls each a run stays within the 512 calls of an object.
    private static final int MOST_AHEAD = 390;

    public static void main(String[] args) {
        Numbers numbers = new Numbers(7);
        for (int run = 0; run < RUNS; run++) {
            int oneIsWildOf = AnyCall.ONE_IS_WILD_OF[run % 3];
            OhmNets x = new OhmNets();
            int ahead = numbers.below(MOST_AHEAD);
            for (int i = 0; i < ahead; i++) {
                AnyCall.next(numbers, oneIsWildOf).on(x);
            }
            String before = look(x);
            AnyCall call = AnyCall.next(numbers, oneIsWildOf);
            long answer = call.on(x);
            String after = look(x);
            Due.holds(call + " answered " + answer + " and changed " + before + " to " + after,
                !call.isRefusedBy(answer) || before.equals(after));
        }
        Due.end();
    }

    private static String look(OhmNets x) {
        StringBuilder text = new StringBuilder();
        text.append(x.count(0)).append(' ').append(x.count(1)).append(' ').append(x.count(2)).append(' ');
        text.append(x.trace());
        for (int w = 0; w < 13; w++) {
            text.append(' ').append(x.about(w, 0)).append(x.about(w, 1)).append(x.about(w, 2));
        }
        for (int i = 0; i < 7; i++) {
            text.append(' ').append(x.choice(i, 0)).append(' ').append(x.choice(i, 2));
        }
        return text.toString();
    }
}
