import java.util.ArrayList;
import java.util.List;

/** Promises 1 and 16 to 19 for THE SHOP: told answers, and a search over all CHOICES. */
public final class ShopTest {
    private static final int[] FAR = {Integer.MIN_VALUE, -1000000, -100, -1, 300, 301, 400, 1000000, Integer.MAX_VALUE};

    public static void main(String[] args) {
        promise1New();
        promise16Sort();
        promise17Ties();
        promise17Refusals();
        promise18Refusals();
        besideSearch();
        Due.end();
    }

    private static void promise1New() {
        OhmNets x = new OhmNets();
        Due.due("count(1)", x.count(1), 0);
        Due.due("nearest(1, 1)", x.nearest(1, 1), OhmNets.STATE);
        Due.due("choice(0, 0)", x.choice(0, 0), OhmNets.BAD);
        Due.due("choice(100, 0)", x.choice(100, 0), OhmNets.BAD);
        Due.due("choice(200, 2)", x.choice(200, 2), OhmNets.BAD);
    }

    private static void promise16Sort() {
        OhmNets x = new OhmNets();
        for (int wrong : new int[] {0, -1, 101, Integer.MIN_VALUE, Integer.MAX_VALUE}) {
            Due.due("sort(" + wrong + ", 1)", x.sort(wrong, 1), OhmNets.BAD);
        }
        for (int wrong : new int[] {0, -1, 51, Integer.MIN_VALUE, Integer.MAX_VALUE}) {
            Due.due("sort(1, " + wrong + ")", x.sort(1, wrong), OhmNets.BAD);
        }
        Due.due("count(1)", x.count(1), 0);
        Due.due("sort(100, 50)", x.sort(100, 50), 0);
        Due.due("sort(1, 1)", x.sort(1, 1), 1);
        Due.due("sort(1, 1) again", x.sort(1, 1), 2);
        Due.due("sort(7, 3)", x.sort(7, 3), 3);
        Due.due("sort(8, 3)", x.sort(8, 3), 4);
        Due.due("count(1)", x.count(1), 5);
        Due.due("sort(9, 3)", x.sort(9, 3), 5);
        Due.due("sort(9, 3) too many", x.sort(9, 3), OhmNets.FULL);
        Due.due("sort(0, 3) BAD ahead of FULL", x.sort(0, 3), OhmNets.BAD);
        Due.due("sort(9, 51) BAD ahead of FULL", x.sort(9, 51), OhmNets.BAD);
        Due.due("count(1)", x.count(1), 6);
        Due.due("choice(0, 0)", x.choice(0, 0), 100);
        Due.due("choice(0, 1)", x.choice(0, 1), 1);
        Due.due("choice(0, 2)", x.choice(0, 2), 50);
        Due.due("choice(100, 0)", x.choice(100, 0), 200);
        Due.due("choice(100, 2)", x.choice(100, 2), 100);
        Due.due("choice(200, 0)", x.choice(200, 0), 50);
        Due.due("choice(201, 0)", x.choice(201, 0), 100);
        Due.due("choice(201, 1)", x.choice(201, 1), 101);
        Due.due("choice(212, 0)", x.choice(212, 0), 1);
        Due.due("choice(212, 1)", x.choice(212, 1), 2);
        Due.due("choice(155, 0)", x.choice(155, 0), 18);
        Due.due("choice(255, 1)", x.choice(255, 1), 2);
    }

    private static void promise17Ties() {
        OhmNets x = shop(10, 5, 10, 4, 10, 4);
        Due.due("nearest(10, 1): the least PRICE", x.nearest(10, 1), 1);
        Due.due("nearest(1, 1): SIDE of the least PRICE", x.nearest(1, 1), 211);
        Due.due("nearest(100, 1): ROW of the least PRICE", x.nearest(100, 1), 111);

        x = shop(2, 9, 4, 2);
        Due.due("nearest(2, 1): SIDE of two cheap ones", x.nearest(2, 1), 211);
        Due.due("nearest(4, 1): one ahead of a ROW that costs more", x.nearest(4, 1), 1);
        Due.due("nearest(3, 1): as far below as above", x.nearest(3, 1), 1);

        x = shop(2, 2, 4, 1);
        Due.due("nearest(2, 1): of the same PRICE the least number", x.nearest(2, 1), 0);
        Due.due("nearest(4, 2): not in its least form", x.nearest(4, 2), 0);

        x = shop(3, 1, 6, 1);
        Due.due("nearest(2, 1)", x.nearest(2, 1), 201);
        Due.due("nearest(1, 1000)", x.nearest(1, 1000), 200);
        Due.due("nearest(1000, 1)", x.nearest(1000, 1), 111);
        Due.due("nearest(1000, 1000)", x.nearest(1000, 1000), 200);
    }

    private static OhmNets shop(int... ohmsAndPrices) {
        OhmNets x = new OhmNets();
        for (int i = 0; i + 1 < ohmsAndPrices.length; i += 2) {
            Due.due("sort", x.sort(ohmsAndPrices[i], ohmsAndPrices[i + 1]), i / 2);
        }
        return x;
    }

    private static void promise17Refusals() {
        OhmNets empty = new OhmNets();
        OhmNets x = shop(10, 1);
        for (int wrong : new int[] {0, -1, 1001, Integer.MIN_VALUE, Integer.MAX_VALUE}) {
            Due.due("nearest(" + wrong + ", 1)", x.nearest(wrong, 1), OhmNets.BAD);
            Due.due("nearest(1, " + wrong + ")", x.nearest(1, wrong), OhmNets.BAD);
            Due.due("nearest(" + wrong + ", 1) BAD ahead of STATE", empty.nearest(wrong, 1), OhmNets.BAD);
            Due.due("nearest(1, " + wrong + ") BAD ahead of STATE", empty.nearest(1, wrong), OhmNets.BAD);
        }
        Due.due("nearest(1000, 1000) of none", empty.nearest(1000, 1000), OhmNets.STATE);
    }

    private static void promise18Refusals() {
        for (int sorts = 1; sorts <= 6; sorts++) {
            OhmNets x = new OhmNets();
            for (int i = 0; i < sorts; i++) {
                x.sort(i + 1, i + 1);
            }
            List<Integer> choices = choices(sorts);
            for (int number = -20; number < 420; number++) {
                boolean is = choices.contains(number);
                Due.holds("choice(" + number + ", 2) of " + sorts, (x.choice(number, 2) != OhmNets.BAD) == is);
            }
            for (int number : FAR) {
                Due.due("choice(" + number + ", 0)", x.choice(number, 0), OhmNets.BAD);
            }
            for (int what : new int[] {-1, 3, Integer.MIN_VALUE, Integer.MAX_VALUE}) {
                Due.due("choice(0, " + what + ")", x.choice(0, what), OhmNets.BAD);
                Due.due("choice(100, " + what + ")", x.choice(100, what), OhmNets.BAD);
            }
        }
    }

    private static List<Integer> choices(int sorts) {
        List<Integer> numbers = new ArrayList<>();
        for (int i = 0; i < sorts; i++) {
            numbers.add(i);
            for (int k = i; k < sorts; k++) {
                numbers.add(100 + 10 * i + k);
                numbers.add(200 + 10 * i + k);
            }
        }
        return numbers;
    }

    private static void besideSearch() {
        Numbers numbers = new Numbers(17);
        for (int run = 0; run < 400; run++) {
            int sorts = numbers.from(1, 6);
            int mostOhms = run % 2 == 0 ? 100 : 8;
            int mostPrice = run % 3 == 0 ? 50 : 3;
            int[] ohms = new int[sorts];
            int[] prices = new int[sorts];
            OhmNets x = new OhmNets();
            for (int i = 0; i < sorts; i++) {
                ohms[i] = numbers.from(1, mostOhms);
                prices[i] = numbers.from(1, mostPrice);
                Due.due("sort", x.sort(ohms[i], prices[i]), i);
            }
            checkChoices(x, ohms, prices);
            for (int ask = 0; ask < 60; ask++) {
                int u = numbers.from(1, ask % 2 == 0 ? 1000 : 20);
                int d = numbers.from(1, ask % 3 == 0 ? 1000 : 4);
                Due.due("nearest(" + u + ", " + d + ")", x.nearest(u, d), nearest(ohms, prices, u, d));
            }
        }
    }

    private static void checkChoices(OhmNets x, int[] ohms, int[] prices) {
        for (int number : choices(ohms.length)) {
            Ratio share = share(number, ohms);
            Due.due("choice(" + number + ", 0)", x.choice(number, 0), share.part(0));
            Due.due("choice(" + number + ", 1)", x.choice(number, 1), share.part(1));
            Due.due("choice(" + number + ", 2)", x.choice(number, 2), price(number, prices));
        }
    }

    private static Ratio share(int number, int[] ohms) {
        if (number < 100) {
            return Ratio.of(ohms[number], 1);
        }
        int first = ohms[number / 10 % 10];
        int second = ohms[number % 10];
        return number < 200 ? Ratio.of(first + second, 1) : Ratio.of(first * second, first + second);
    }

    private static int price(int number, int[] prices) {
        return number < 100 ? prices[number] : prices[number / 10 % 10] + prices[number % 10];
    }

    private static int nearest(int[] ohms, int[] prices, int u, int d) {
        Ratio told = Ratio.of(u, d);
        List<Integer> all = choices(ohms.length);
        all.sort((one, other) -> {
            int byGap = share(one, ohms).minus(told).size().compareTo(share(other, ohms).minus(told).size());
            if (byGap != 0) {
                return byGap;
            }
            int byPrice = Integer.compare(price(one, prices), price(other, prices));
            return byPrice != 0 ? byPrice : Integer.compare(one, other);
        });
        return all.get(0);
    }
}
