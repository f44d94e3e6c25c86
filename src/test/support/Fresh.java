/** An object that has calls left: one is promised to answer 512. */
final class Fresh {
    private static final int CALLS = 512;

    private static OhmNets current = null;
    private static int left = 0;

    private Fresh() {
    }

    static OhmNets x() {
        if (left == 0) {
            renew();
        }
        left--;
        return current;
    }

    static void renew() {
        current = new OhmNets();
        left = CALLS;
    }
}
