/** Long runs of any calls with any numbers: none throws, and what is refused changes nothing. */
public final class NeverThrowsTest {
    private static final int[] ODD = {Integer.MIN_VALUE, Integer.MIN_VALUE + 1, -1000000, -300, -100, -33, -32, -9, -2,
        -1, 0, 1, 2, 3, 4, 5, 6, 7, 8, 9, 10, 11, 12, 13, 31, 32, 33, 50, 51, 99, 100, 101, 155, 199, 200, 255, 299,
        300, 868, 869, 1000, 1001, 999999, 1000000, 1000001, 65536, Integer.MAX_VALUE - 1, Integer.MAX_VALUE};
    // With two looks of 57 calls each a run stays within the 512 calls of an object.
    private static final int MOST_AHEAD = 390;

    public static void main(String[] args) {
        Numbers numbers = new Numbers(7);
        for (int run = 0; run < 4000; run++) {
            OhmNets x = new OhmNets();
            int ahead = numbers.below(MOST_AHEAD);
            for (int call = 0; call < ahead; call++) {
                anyCall(x, numbers.below(19), numbers, run % 3);
            }
            String before = look(x);
            int which = numbers.below(19);
            long answer = anyCall(x, which, numbers, run % 3);
            String after = look(x);
            Due.holds("call " + which + " answered " + answer + " and changed " + before + " to " + after,
                !isRefused(which, answer) || before.equals(after));
        }
        Due.end();
    }

    private static boolean isRefused(int which, long answer) {
        if (which == 11) {
            return answer == Long.MIN_VALUE;
        }
        return answer == OhmNets.BAD || answer == OhmNets.STATE || answer == OhmNets.FULL;
    }

    private static String look(OhmNets x) {
        StringBuilder text = new StringBuilder();
        text.append(x.count(0)).append(' ').append(x.count(1)).append(' ').append(x.count(2)).append(' ');
        text.append(x.trace());
        for (int w = 0; w < 13; w++) {
            text.append(' ').append(x.about(w, 0)).append(x.about(w, 1)).append(x.about(w, 2));
        }
        for (int i = 0; i < 7; i++) {
            text.append(' ').append(x.choice(i, 0)).append(' ').append(x.choice(i, 2));
        }
        return text.toString();
    }

    private static int odd(Numbers numbers, int least, int most, int how) {
        boolean wild = numbers.below(how == 0 ? 2 : how == 1 ? 20 : 200) == 0;
        return wild ? ODD[numbers.below(ODD.length)] : numbers.from(least, most);
    }

    private static long anyCall(OhmNets x, int which, Numbers n, int how) {
        switch (which) {
            case 0: return x.many(odd(n, 1, 9, how));
            case 1: return x.share(odd(n, 1, 9, how), odd(n, 0, 20, how), odd(n, 0, 1, how));
            case 2: return x.rank(odd(n, 1, 9, how), odd(n, 1, 30, how), odd(n, 1, 30, how));
            case 3: return x.fewest(odd(n, 1, 30, how), odd(n, 1, 30, how));
            case 4: return x.made(odd(n, 1, 9, how), odd(n, 0, 20, how), odd(n, 0, 3, how));
            case 5: return x.turned(odd(n, 1, 9, how), odd(n, 0, 20, how));
            case 6: return x.wire(odd(n, 0, 2, how), odd(n, 0, 5, how), odd(n, 0, 5, how), odd(n, 1, 4, how),
                odd(n, 1, 4, how));
            case 7: return n.below(3) == 0 ? x.cut() : x.trees();
            case 8: return x.ohms(odd(n, 0, 11, how), odd(n, 0, 1, how));
            case 9: return x.about(odd(n, 0, 11, how), odd(n, 0, 2, how));
            case 10: return x.between(odd(n, 0, 5, how), odd(n, 0, 5, how), odd(n, 0, 1, how));
            case 11: return x.through(odd(n, 0, 11, how), odd(n, 0, 5, how), odd(n, 0, 5, how), odd(n, 0, 1, how));
            case 12: return x.trees();
            case 13: return x.falls(odd(n, 0, 5, how), odd(n, 0, 5, how));
            case 14: return n.below(20) == 0 ? x.sort(odd(n, 1, 100, how), odd(n, 1, 50, how)) : x.count(1);
            case 15: return x.nearest(odd(n, 1, 1000, how), odd(n, 1, 1000, how));
            case 16: return x.choice(odd(n, 0, 260, how), odd(n, 0, 2, how));
            case 17: return x.count(odd(n, 0, 2, how));
            default: return x.trace();
        }
    }
}
