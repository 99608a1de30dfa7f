import java.util.ArrayList;
import java.util.List;
import java.util.Random;

/** Long runs of calls, drawn from fixed seeds: the class must answer as the naive ledger does. */
public final class FuzzTest {
    private static final String[] EDGES = {"0", "1", "-1", "-2", "-3", "6", "7", "60", "61", "99999", "100000", "2147483647", "-2147483648"};

    private final Random random;
    private final Caller tested;
    private final Caller naive;
    private final List<String> told = new ArrayList<>();
    private int investors;
    private int deals;
    private boolean wrong;
    private boolean crowded;

    private FuzzTest(long seed) {
        random = new Random(seed);
        tested = new Caller(new WeirLedger());
        naive = new Caller(new NaiveLedger());
    }

    public static void main(String[] args) {
        int runs = args.length > 1 ? Integer.parseInt(args[1]) : 400;
        int first = args.length > 2 ? Integer.parseInt(args[2]) : 1;
        long calls = 0;
        int bad = 0;
        for (int seed = first; seed < first + runs && bad < 5; seed++) {
            FuzzTest t = new FuzzTest(seed);
            t.run();
            calls += t.told.size();
            if (t.wrong) {
                bad++;
                System.out.println("seed " + seed + ":");
                int from = Math.max(0, t.told.size() - 60);
                t.told.subList(from, t.told.size()).forEach(System.out::println);
            }
        }
        System.out.println("fuzz: " + calls + " calls, " + bad + " runs went wrong");
        System.exit(bad == 0 ? 0 : 1);
    }

    private int below(int n) {
        return random.nextInt(n);
    }

    private boolean chance(int inHundred) {
        return below(100) < inHundred;
    }

    private String ask(String words) {
        String got = tested.ask(words);
        String due = naive.ask(words);
        told.add(words + " = " + got + (got.equals(due) ? "" : ", due is " + due));
        wrong |= !got.equals(due);
        return due;
    }

    private void tell(String text, String how) {
        tested.feedText(text);
        naive.feedText(text);
        told.add("'" + text + "'");
        String answer = ask(how);
        ask("fault");
        if (how.equals("fund") && !answer.startsWith("throws")) {
            investors = Integer.parseInt(answer);
            deals = Integer.parseInt(naive.ask("count 1"));
        }
    }

    private void run() {
        if (chance(90)) {
            tell(fundText(), "fund");
        }
        crowded = chance(10);
        int steps = crowded ? 180 : 60 + below(120);
        for (int k = 0; k < steps && !wrong; k++) {
            int kind = below(100);
            if (kind < 40) {
                ask(actCall());
                if (chance(30)) {
                    ask("mark " + dealNumber() + " " + sum());
                }
                int size = Integer.parseInt(naive.ask("count 3"));
                if (crowded && size < 59) {
                    ask("mark " + dealNumber() + " " + sum());
                }
                if (size > 8 && chance(5)) {
                    finish();
                }
            } else if (kind < 48) {
                tell(spoil(actsText(), 25), "acts");
            } else if (kind < 50) {
                tell(spoil(fundText(), 40), "fund");
            } else if (kind < 53) {
                ask("undo");
            } else if (kind < 55) {
                ask(chance(50) ? "image" : "back");
                deals = Integer.parseInt(naive.ask("count 1"));
                investors = Integer.parseInt(naive.ask("count 0"));
            } else {
                ask(question());
            }
            if (chance(8)) {
                all();
            }
        }
        all();
    }

    /** All that is open is sold, and the end comes; then much is asked, and often the end is taken back. */
    private void finish() {
        for (int d = 0; d < deals; d++) {
            ask("sell " + d + " " + sum() + " true");
        }
        ask("close");
        all();
        for (int k = 0; k < 20; k++) {
            ask(question());
        }
        if (chance(80)) {
            int taken = 1 + below(4);
            for (int k = 0; k < taken; k++) {
                ask("undo");
            }
        }
    }

    /** Everything that stands, looked at once. */
    private void all() {
        for (int i = 0; i < investors; i++) {
            for (int k = 0; k < 6; k++) {
                ask("investor " + i + " " + k);
            }
            ask("drift " + i);
        }
        for (int d = -2; d < deals; d++) {
            for (int k = 0; k < 5; k++) {
                ask("ladder " + d + " " + k);
                ask("deal " + d + " " + k);
            }
        }
        for (int k = 0; k < 7; k++) {
            ask("manager " + k);
            ask("count " + k);
            ask("term " + k);
        }
        ask("claw");
    }

    private String number(int least, int top) {
        int n = below(10);
        if (n == 0) {
            return "" + least;
        }
        if (n == 1) {
            return "" + top;
        }
        return "" + (least + below(top - least + 1));
    }

    private String fundText() {
        StringBuilder s = new StringBuilder("fund");
        String[] words = {"hurdle", "catch", "carry", "dealwise", "tax", "held", "fee"};
        int[] tops = {chance(50) ? 300 : 999, 100, 50, 0, 99, 100, 200};
        for (int k = 0; k < 7; k++) {
            if (chance(70)) {
                s.append(' ').append(words[k]);
                if (k != 3) {
                    s.append(' ').append(k == 1 && chance(40) ? "100" : k == 2 && chance(40) ? "20" : number(0, tops[k]));
                }
            }
        }
        int n = chance(80) ? 2 + below(5) : 1 + below(7);
        int top = chance(50) ? 9999 : 1 + below(1500);
        int dealsAt = below(n + 1);
        for (int i = 0; i <= n; i++) {
            if (i == dealsAt) {
                s.append(";deals ").append(chance(90) ? 1 + below(6) : below(8));
            }
            if (i < n) {
                s.append(";investor ").append(number(1, top));
            }
        }
        int excuses = chance(40) ? 1 + below(5) : 0;
        for (int k = 0; k < excuses && chance(95); k++) {
            s.append(";excuse ").append(below(n)).append(' ').append(chance(10) ? below(7) : 0);
        }
        return s.toString();
    }

    private String spoil(String text, int inHundred) {
        if (!chance(inHundred)) {
            return text;
        }
        StringBuilder s = new StringBuilder(text);
        int changes = 1 + below(2);
        for (int k = 0; k < changes; k++) {
            int at = below(s.length() + 1);
            String signs = "; 059azlast;" + (char) 0 + (char) 255 + (char) 9 + "A;  ";
            int how = below(5);
            if (how == 0 && at < s.length()) {
                s.deleteCharAt(at);
            } else if (how == 1 && at < s.length()) {
                s.setCharAt(at, signs.charAt(below(signs.length())));
            } else if (how == 2) {
                s.insert(at, signs.charAt(below(signs.length())));
            } else if (how == 3) {
                s.setLength(at);
            } else {
                s.append(";").append(text, 0, Math.min(text.length(), below(40)));
            }
        }
        if (s.length() > 400) {
            s.setLength(400);
        }
        return s.toString();
    }

    private String dealNumber() {
        return "" + (chance(4) ? below(9) - 2 : below(Math.max(1, deals)));
    }

    private String investorNumber() {
        return "" + (chance(4) ? below(9) - 2 : below(Math.max(1, investors)));
    }

    private String sum() {
        int how = below(10);
        return how < 5 ? "" + (1 + below(300)) : how < 8 ? "" + below(3000) : how == 8 ? "" + below(10002) : "" + below(20);
    }

    private String wait60() {
        return "" + (chance(70) ? 1 + below(6) : chance(95) ? 1 + below(60) : below(63));
    }

    private String actCall() {
        int k = below(100);
        if (k < 30) {
            return "call " + dealNumber() + " " + sum();
        }
        if (k < 55) {
            return "sell " + dealNumber() + " " + sum() + " " + (chance(25) ? "true" : "false");
        }
        if (k < 65) {
            return "mark " + dealNumber() + " " + sum();
        }
        if (k < 85) {
            return "quarters " + wait60();
        }
        if (k < 89) {
            return "fail " + investorNumber();
        }
        if (k < 97) {
            return "move " + investorNumber() + " " + investorNumber() + " " + sum();
        }
        return "close";
    }

    private String actsText() {
        StringBuilder s = new StringBuilder();
        int n = chance(5) ? 13 + below(4) : below(5);
        for (int k = 0; k < n; k++) {
            String[] words = actCall().split(" ");
            s.append(k == 0 ? "" : chance(30) ? " ; " : ";");
            if (words[0].equals("quarters")) {
                s.append("wait ").append(words[1]);
            } else if (words[0].equals("close")) {
                s.append("end");
            } else if (words[0].equals("sell")) {
                s.append("sell ").append(words[1]).append(' ').append(words[2]);
                s.append(words[3].equals("true") ? (chance(50) ? "last" : " last") : "");
            } else {
                s.append(String.join(chance(50) ? " " : "  ", words));
            }
        }
        if (s.length() > 400) {
            s.setLength(400);
        }
        return s.toString();
    }

    private String edge() {
        return EDGES[below(EDGES.length)];
    }

    private String orEdge(String plain) {
        return chance(4) ? edge() : plain;
    }

    private String dealOrNone() {
        return chance(40) ? "-1" : orEdge(dealNumber());
    }

    private String actNumber() {
        int size = Integer.parseInt(naive.ask("count 3"));
        return orEdge("" + (below(size + (chance(10) ? 2 : 0) + 1) - (chance(5) ? 1 : 0)));
    }

    private String asked() {
        int near = Integer.parseInt(naive.ask("manager 0")) + below(30) - 25;
        return orEdge(chance(60) && near >= 0 ? "" + near : chance(70) ? "" + below(400) : "" + below(5000));
    }

    private String question() {
        switch (below(26)) {
            case 0:
                return "filling " + dealOrNone() + " " + orEdge(sum()) + " " + orEdge("" + below(6));
            case 1:
                return "needed " + dealOrNone() + " " + orEdge("" + below(4));
            case 2:
                return "reaches " + dealOrNone() + " " + asked();
            case 3:
                return "share " + orEdge(investorNumber()) + " " + dealOrNone() + " " + asked();
            case 4:
                return "claw";
            case 5:
                return "soldOut " + orEdge("" + below(3));
            case 6:
                return "order " + orEdge("" + (below(8) - 1));
            case 7:
                int term = below(6);
                int[] tops = {999, 100, 50, 1, 99, 100};
                return "would " + orEdge("" + term) + " " + orEdge("" + below(tops[term] + 1));
            case 8:
                return "bar " + asked();
            case 9:
                return "drift " + orEdge(investorNumber());
            case 10:
                return "swapped " + actNumber();
            case 11:
                return "without " + actNumber();
            case 12:
                return "behind " + actNumber() + " " + orEdge("" + below(5));
            case 13:
                return "clean";
            case 14:
                return "idle";
            case 15:
                return "blame";
            case 16:
                return "most";
            case 17:
                return "owed " + dealOrNone() + " " + orEdge("" + below(61));
            case 18:
                return "patience " + asked();
            case 19:
                return "deals " + orEdge("" + below(3));
            case 20:
                return "curve " + orEdge("" + below(Integer.parseInt(naive.ask("count 2")) + 2));
            case 21:
                return "curves " + orEdge("" + below(2));
            case 22:
                return "rate " + (chance(30) ? "-1" : orEdge(investorNumber()));
            case 23:
                return "multiple " + (chance(30) ? "-1" : orEdge(investorNumber()));
            case 24:
                return "end " + orEdge("" + below(3));
            default:
                return "act " + actNumber() + " " + orEdge("" + below(7));
        }
    }
}
