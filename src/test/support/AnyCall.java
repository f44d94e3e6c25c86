import java.util.Arrays;

/** A call with numbers that look like chance; it can be made again on another object. */
final class AnyCall {
    /** How often numbers are wild: every second one, every 20th, every 200th. */
    static final int[] ONE_IS_WILD_OF = {2, 20, 200};

    private static final int[] WILD = {Integer.MIN_VALUE, Integer.MIN_VALUE + 1, -1000000, -300, -100, -33, -32, -9, -2,
        -1, 0, 1, 2, 3, 4, 5, 6, 7, 8, 9, 10, 11, 12, 13, 31, 32, 33, 50, 51, 99, 100, 101, 155, 199, 200, 255, 299,
        300, 868, 869, 1000, 1001, 999999, 1000000, 1000001, 65536, Integer.MAX_VALUE - 1, Integer.MAX_VALUE};

    private static final String[] NAMES = {"many", "share", "rank", "fewest", "made", "turned", "wire", "cut", "ohms",
        "about", "between", "through", "trees", "falls", "sort", "nearest", "choice", "count", "trace"};

    private final String name;
    private final int[] numbers;

    private AnyCall(String name, int[] numbers) {
        this.name = name;
        this.numbers = numbers;
    }

    static AnyCall next(Numbers chance, int oneIsWildOf) {
        String name = nextName(chance);
        int[] bounds = boundsOf(name);
        int[] numbers = new int[bounds.length / 2];
        for (int i = 0; i < numbers.length; i++) {
            boolean wild = chance.below(oneIsWildOf) == 0;
            numbers[i] = wild ? WILD[chance.below(WILD.length)] : chance.from(bounds[2 * i], bounds[2 * i + 1]);
        }
        return new AnyCall(name, numbers);
    }

    private static String nextName(Numbers chance) {
        String name = NAMES[chance.below(NAMES.length)];
        // Else the net would mostly be empty and the shop full.
        boolean again = name.equals("cut") && chance.below(3) != 0 || name.equals("sort") && chance.below(20) != 0;
        return again ? NAMES[chance.below(NAMES.length)] : name;
    }

    /** The least and the most of each number, when it is not wild. */
    private static int[] boundsOf(String name) {
        switch (name) {
            case "many": return new int[] {1, 9};
            case "share": return new int[] {1, 9, 0, 20, 0, 1};
            case "rank": return new int[] {1, 9, 1, 30, 1, 30};
            case "fewest": return new int[] {1, 30, 1, 30};
            case "made": return new int[] {1, 9, 0, 20, 0, 3};
            case "turned": return new int[] {1, 9, 0, 20};
            case "wire": return new int[] {0, 2, 0, 5, 0, 5, 1, 4, 1, 4};
            case "ohms": return new int[] {0, 11, 0, 1};
            case "about": return new int[] {0, 11, 0, 2};
            case "between": return new int[] {0, 5, 0, 5, 0, 1};
            case "through": return new int[] {0, 11, 0, 5, 0, 5, 0, 1};
            case "falls": return new int[] {0, 5, 0, 5};
            case "sort": return new int[] {1, 100, 1, 50};
            case "nearest": return new int[] {1, 1000, 1, 1000};
            case "choice": return new int[] {0, 260, 0, 2};
            case "count": return new int[] {0, 2};
            default: return new int[0];
        }
    }

    long on(OhmNets x) {
        int[] n = numbers;
        switch (name) {
            case "many": return x.many(n[0]);
            case "share": return x.share(n[0], n[1], n[2]);
            case "rank": return x.rank(n[0], n[1], n[2]);
            case "fewest": return x.fewest(n[0], n[1]);
            case "made": return x.made(n[0], n[1], n[2]);
            case "turned": return x.turned(n[0], n[1]);
            case "wire": return x.wire(n[0], n[1], n[2], n[3], n[4]);
            case "cut": return x.cut();
            case "ohms": return x.ohms(n[0], n[1]);
            case "about": return x.about(n[0], n[1]);
            case "between": return x.between(n[0], n[1], n[2]);
            case "through": return x.through(n[0], n[1], n[2], n[3]);
            case "trees": return x.trees();
            case "falls": return x.falls(n[0], n[1]);
            case "sort": return x.sort(n[0], n[1]);
            case "nearest": return x.nearest(n[0], n[1]);
            case "choice": return x.choice(n[0], n[1]);
            case "count": return x.count(n[0]);
            case "trace": return x.trace();
            default: throw new IllegalStateException(name);
        }
    }

    /** Whether this is a call that changes the object, unless it is refused. */
    boolean canChange() {
        return name.equals("wire") || name.equals("cut") || name.equals("ohms") || name.equals("sort");
    }

    boolean isRefusedBy(long answer) {
        if (name.equals("through")) {
            return answer == Long.MIN_VALUE;
        }
        return answer == OhmNets.BAD || answer == OhmNets.STATE || answer == OhmNets.FULL;
    }

    @Override
    public String toString() {
        String list = Arrays.toString(numbers);
        return name + "(" + list.substring(1, list.length() - 1) + ")";
    }
}
