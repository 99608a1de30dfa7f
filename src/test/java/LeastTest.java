import java.util.ArrayList;
import java.util.Arrays;
import java.util.List;
import java.util.Random;

/** needed and reaches tell the least sum: here every sum is tried, since class and naive ledger both leave most of them out. */
public final class LeastTest {
    private static final int TOP = 99999;

    public static void main(String[] args) {
        List<String> wrong = new ArrayList<>();
        int ladders = 0;
        for (int seed = 0; seed < 60; seed++) {
            Random random = new Random(seed);
            WeirLedger ledger = drawn(random);
            for (int deal = -1; deal < 2; deal++) {
                compare(ledger, deal, random, wrong, "seed " + seed + ", deal " + deal + ": ");
                ladders++;
            }
        }
        wrong.forEach(System.out::println);
        System.out.println("least: " + ladders + " ladders, " + wrong.size() + " wrong");
        System.exit(wrong.isEmpty() ? 0 : 1);
    }

    /** A catch little above the carry comes often: there rounding makes the catch-up longest. */
    private static WeirLedger drawn(Random random) {
        WeirLedger ledger = new WeirLedger();
        Caller caller = new Caller(ledger);
        int carry = random.nextInt(51);
        int caught = random.nextInt(3) == 0 ? carry + 1 + random.nextInt(3) : random.nextInt(101);
        caller.feedText("fund hurdle " + random.nextInt(1000) + " catch " + caught + " carry " + carry
                + (random.nextBoolean() ? " dealwise" : "") + " fee " + random.nextInt(201) + ";investor 9999;investor 5000;deals 2");
        caller.ask("fund");
        for (int k = 0; k < 12; k++) {
            caller.ask("call " + random.nextInt(2) + " " + (1 + random.nextInt(900)));
            caller.ask("quarters " + (1 + random.nextInt(6)));
            if (random.nextInt(3) == 0) {
                caller.ask("sell " + random.nextInt(2) + " " + random.nextInt(3000) + " " + (random.nextInt(6) == 0));
            }
        }
        return ledger;
    }

    private static void compare(WeirLedger ledger, int deal, Random random, List<String> wrong, String where) {
        int[] wanted = {0, 1, 2, random.nextInt(50), random.nextInt(2000), random.nextInt(40000)};
        int[] steps = new int[4];
        int[] sums = new int[wanted.length];
        Arrays.fill(steps, WeirLedger.NONE);
        Arrays.fill(sums, WeirLedger.NONE);
        for (int sum = 0; sum <= TOP; sum++) {
            for (int k = 0; k < 4; k++) {
                if (sum > 0 && steps[k] < 0 && ledger.filling(deal, sum, k) > 0) {
                    steps[k] = sum;
                }
            }
            long came = ledger.filling(deal, sum, 4);
            for (int k = 0; k < wanted.length; k++) {
                if (sums[k] < 0 && came >= wanted[k]) {
                    sums[k] = sum;
                }
            }
        }
        for (int k = 0; k < 4; k++) {
            if (ledger.needed(deal, k) != steps[k]) {
                wrong.add(where + "needed of step " + k + " is " + ledger.needed(deal, k) + ", due is " + steps[k]);
            }
        }
        for (int k = 0; k < wanted.length; k++) {
            if (ledger.reaches(deal, wanted[k]) != sums[k]) {
                wrong.add(where + "reaches of " + wanted[k] + " is " + ledger.reaches(deal, wanted[k]) + ", due is " + sums[k]);
            }
        }
    }
}
