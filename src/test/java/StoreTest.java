import java.util.ArrayList;
import java.util.List;

/** Promises 13 to 18, 24 and 25: learning, expiry, the journal, the indicator. */
public final class StoreTest {
    public static void main(String[] args) {
        learning();
        nothingToLearn();
        atMost200Entries();
        expiry();
        theJournalsBytes();
        theJournalHasRoomFor12000();
        crashes();
        crashAtEachByte();
        compacting();
        theLatestIndicator();
        indicators();
        theEarlierOfTheSame();
        Desk.end();
    }

    private static Desk desk() {
        Desk desk = new Desk();
        desk.meet(0, "");
        return desk;
    }

    private static int learn(Desk desk, String words, boolean spam) {
        desk.give(0, Desk.message(words));
        desk.sieve.clear(0);
        return desk.sieve.learn(0, spam);
    }

    private static int entry(Desk desk, String word, int what) {
        return desk.sieve.entry(Desk.digest(word), what);
    }

    private static void learning() {
        Desk desk = desk();
        desk.sieve.tick(7);
        Desk.due("learn", learn(desk, "one two", true), 2);
        desk.sieve.tick(3);
        Desk.due("learn more", learn(desk, "two three", false), 3);
        Desk.due("learn again", desk.sieve.learn(0, false), 3);
        int[] one = {1, 0, 7, -1};
        int[] two = {1, 2, 10, -1};
        for (int what = 0; what < 4; what++) {
            Desk.due("one " + what, entry(desk, "one", what), one[what]);
            Desk.due("two " + what, entry(desk, "two", what), two[what]);
        }
        Desk.due("no such what", entry(desk, "one", -1), -1);
        Desk.due("no such entry", entry(desk, "four", 0), -1);
        Desk.due("S", desk.sieve.state(5), 1);
        Desk.due("H", desk.sieve.state(6), 2);
        Desk.due("entries", desk.sieve.state(4), 3);
    }

    private static void nothingToLearn() {
        Desk desk = desk();
        Desk.due("none judged", desk.sieve.learn(0, true), -1);
        Desk.due("no such session", desk.sieve.learn(4, true), -1);
        Desk.due("no journal", desk.sieve.state(7), 0);
        Desk.due("a message without tokens", learn(desk, "", true), 0);
        Desk.due("counts all the same", desk.sieve.state(5), 1);
        Desk.due("with a record", desk.sieve.state(7), 8);
    }

    private static String words(int from, int to) {
        StringBuilder all = new StringBuilder();
        for (int i = from; i < to; i++) {
            all.append("w").append(i).append(" ");
        }
        return all.toString();
    }

    private static void atMost200Entries() {
        Desk desk = desk();
        desk.sieve.tick(1);
        learn(desk, words(1000, 1100), true);
        desk.sieve.tick(1);
        Desk.due("200", learn(desk, words(1100, 1200), true), 200);
        desk.sieve.tick(1);
        Desk.due("still 200", learn(desk, "another", true), 200);
        // the least digest of the older hundred went
        String least = "w1000";
        for (int i = 1000; i < 1100; i++) {
            least = Desk.digest("w" + i) < Desk.digest(least) ? "w" + i : least;
        }
        Desk.due("the least went", entry(desk, least, 0), -1);
        int there = 0;
        for (int i = 1000; i < 1200; i++) {
            there += entry(desk, "w" + i, 0) == 1 ? 1 : 0;
        }
        Desk.due("the others stay", there, 199);
    }

    private static void expiry() {
        Desk desk = desk();
        desk.sieve.tick(10);
        learn(desk, "one two", true);
        desk.sieve.tick(10);
        learn(desk, "two three", true);
        Desk.due("none goes", desk.sieve.expire(10), 0);
        Desk.due("one goes", desk.sieve.expire(11), 1);
        Desk.due("it is gone", entry(desk, "one", 0), -1);
        Desk.due("S stays", desk.sieve.state(5), 2);
        Desk.due("all go", desk.sieve.expire(100000000), 2);
        Desk.due("a time that can't be", desk.sieve.expire(100000001), -1);
        Desk.due("a time below 0", desk.sieve.expire(-1), -1);
        Desk.due("records", desk.sieve.state(7), 24 + 24 + 18);
    }

    private static List<Integer> journal(Desk desk) {
        List<Integer> all = new ArrayList<>();
        for (int i = 0; desk.sieve.journal(i) >= 0; i++) {
            all.add(desk.sieve.journal(i));
        }
        return all;
    }

    /** Puts a number of several bytes behind a record. */
    private static void put(List<Integer> record, long number, int bytes) {
        for (int shift = 8 * bytes - 8; shift >= 0; shift -= 8) {
            record.add((int) (number >> shift & 255));
        }
    }

    private static List<Integer> ended(List<Integer> record) {
        int sum = 0;
        for (int b : record) {
            sum += b;
        }
        record.add(sum % 256);
        return record;
    }

    private static void theJournalsBytes() {
        Desk desk = desk();
        desk.sieve.tick(70000);
        learn(desk, "one two", true);
        desk.sieve.expire(65536);
        learn(desk, "two", false);
        List<Integer> want = new ArrayList<>();
        List<Integer> record = new ArrayList<>(List.of(1, 1));
        put(record, 70000, 4);
        put(record, 2, 1);
        put(record, Desk.digest("one"), 8);
        put(record, Desk.digest("two"), 8);
        want.addAll(ended(record));
        want.addAll(ended(new ArrayList<>(List.of(2, 0, 1, 0, 0))));
        record = new ArrayList<>(List.of(1, 0));
        put(record, 70000, 4);
        put(record, 1, 1);
        put(record, Desk.digest("two"), 8);
        want.addAll(ended(record));
        Desk.due("journal", journal(desk), want);
        Desk.due("journal -1", desk.sieve.journal(-1), -1);
        Desk.due("nothing synced", desk.sieve.state(8), 0);
        Desk.due("compact", desk.sieve.compact(), 6 + 18 + 18);
        want = new ArrayList<>(ended(new ArrayList<>(List.of(3, 0, 1, 0, 1))));
        for (int k = 0; k < 2; k++) {
            record = new ArrayList<>(List.of(4));
            put(record, Desk.digest(k == 0 ? "one" : "two"), 8);
            put(record, 1, 2);
            put(record, k, 2);
            put(record, 70000, 4);
            want.addAll(ended(record));
        }
        Desk.due("journal when compacted", journal(desk), want);
        Desk.due("all synced", desk.sieve.state(8), 42);
    }

    private static void theJournalHasRoomFor12000() {
        Desk desk = desk();
        desk.give(0, Desk.message(words(1000, 1100)));
        // 14 records of 808 bytes are 11,312, and 688 are left: 114 expiries of 6 and 4 bytes
        for (int i = 0; i < 14; i++) {
            Desk.due("learn " + i, desk.sieve.learn(0, true), 100);
        }
        Desk.due("no room to learn", desk.sieve.learn(0, true), -2);
        Desk.due("S stays", desk.sieve.state(5), 14);
        desk.give(0, Desk.message(words(1000, 1086)));
        Desk.due("no room for 86 tokens", desk.sieve.learn(0, true), -2);
        for (int i = 0; i < 114; i++) {
            Desk.due("expire " + i, desk.sieve.expire(0), 0);
        }
        desk.sieve.tick(5);
        Desk.due("no room to expire", desk.sieve.expire(3), -2);
        Desk.due("nothing went", desk.sieve.state(4), 100);
        Desk.due("bytes", desk.sieve.state(7), 11996);
        Desk.due("a wrong time all the same", desk.sieve.expire(-1), -1);
        Desk.due("compact makes room", desk.sieve.compact(), 6 + 1800);
        Desk.due("learn again", desk.sieve.learn(0, true), 100);
        desk = desk();
        desk.give(0, Desk.message(words(1000, 1100)));
        for (int i = 0; i < 14; i++) {
            desk.sieve.learn(0, true);
        }
        Desk.due("85 tokens fit just so", learn(desk, words(1000, 1085), true), 100);
        Desk.due("the journal is full", desk.sieve.state(7), 12000);
        Desk.due("no room for a message without tokens", learn(desk, "", true), -2);
    }

    private static void crashes() {
        Desk desk = desk();
        Desk.due("crash of nothing", desk.sieve.crash(0), 0);
        Desk.due("crash of more", desk.sieve.crash(1), -1);
        learn(desk, "one two", true);
        Desk.due("sync", desk.sieve.sync(), 24);
        learn(desk, "two three", false);
        Desk.due("below 0", desk.sieve.crash(-1), -1);
        Desk.due("more than there are", desk.sieve.crash(25), -1);
        Desk.due("bytes stay", desk.sieve.state(7), 48);
        Desk.due("a whole record is left", desk.sieve.crash(24), 48);
        Desk.due("ham", entry(desk, "two", 1), 1);
        Desk.due("synced", desk.sieve.state(8), 48);
        learn(desk, "four", true);
        Desk.due("a record that is not whole", desk.sieve.crash(15), 48);
        Desk.due("is not done", entry(desk, "four", 0), -1);
        Desk.due("S", desk.sieve.state(5), 1);
        Desk.due("H", desk.sieve.state(6), 1);
        desk.sieve.compact();
        learn(desk, "four", true);
        Desk.due("behind a compact one", desk.sieve.crash(0), 60);
        Desk.due("entries", desk.sieve.state(4), 3);
        Desk.due("text stays", desk.text(0), "four\n");
    }

    private static void crashAtEachByte() {
        for (int left = 0; left <= 46; left++) {
            Desk desk = desk();
            desk.sieve.tick(9);
            learn(desk, "one two", true);
            desk.sieve.expire(10);
            learn(desk, "three", false);
            int want = left < 24 ? 0 : left < 30 ? 24 : left < 46 ? 30 : 46;
            Desk.due("crash " + left, desk.sieve.crash(left), want);
            Desk.due("entries behind crash " + left, desk.sieve.state(4), left < 24 ? 0 : left < 30 ? 2 : left < 46 ? 0 : 1);
            Desk.due("S behind crash " + left, desk.sieve.state(5), left < 24 ? 0 : 1);
            Desk.due("H behind crash " + left, desk.sieve.state(6), left < 46 ? 0 : 1);
        }
    }

    private static void compacting() {
        Desk desk = desk();
        Desk.due("an empty store", desk.sieve.compact(), 6);
        desk.sieve.tick(100);
        learn(desk, "one two three", true);
        learn(desk, "two", false);
        desk.sieve.compact();
        Desk.due("crash", desk.sieve.crash(0), 6 + 54);
        int[] two = {1, 1, 100};
        for (int what = 0; what < 3; what++) {
            Desk.due("two " + what, entry(desk, "two", what), two[what]);
        }
        Desk.due("S", desk.sieve.state(5), 1);
        Desk.due("H", desk.sieve.state(6), 1);
    }

    // ---- the indicator

    private static void theLatestIndicator() {
        Desk desk = desk();
        learn(desk, "one two", true);
        learn(desk, "one two", true);
        Desk.due("without ham", desk.sieve.indicator(0), 0.5);
        learn(desk, "three", false);
        desk.give(0, Desk.message("four five"));
        Desk.due("without known words", desk.sieve.indicator(0), 0.5);
        desk.give(0, Desk.message("one"));
        double before = desk.sieve.indicator(0);
        Desk.due("a spam word", before > 0.5, true);
        desk.sieve.learn(0, false);
        Desk.due("it is that of its judging", desk.sieve.indicator(0), before);
    }

    private static void indicators() {
        Desk desk = desk();
        int[][] counts = new int[40][2];
        int spams = 0;
        int hams = 0;
        for (int m = 0; m < 12; m++) {
            boolean spam = m % 3 != 0;
            StringBuilder text = new StringBuilder();
            for (int w = 0; w < 40; w++) {
                if ((w * 7 + m * 5) % (w % 6 + 2) == (spam ? 0 : 1)) {
                    text.append("word").append(w).append(" ");
                    counts[w][spam ? 0 : 1]++;
                }
            }
            spams += spam ? 1 : 0;
            hams += spam ? 0 : 1;
            learn(desk, text.toString(), spam);
        }
        for (int from = 0; from < 40; from += 3) {
            StringBuilder text = new StringBuilder();
            double[] weights = new double[40];
            int n = 0;
            for (int w = from; w < 40; w += 1 + from % 2) {
                text.append("word").append(w).append(" ");
                if (counts[w][0] + counts[w][1] > 0) {
                    weights[n++] = weight(counts[w][0], counts[w][1], spams, hams);
                }
            }
            desk.give(0, Desk.message(text.toString()));
            desk.sieve.clear(0);
            Desk.due("indicator from " + from, desk.sieve.indicator(0), indicator(weights, n));
        }
    }

    /** 15 words of one kind and one of the other, all as strong (or nearly so): the order and the cut can be seen. */
    private static void theEarlierOfTheSame() {
        for (int times = 1; times <= 8; times++) {
            Desk desk = desk();
            String spam = words(1000, 1016);
            String ham = words(2000, 2016);
            for (int i = 0; i < times; i++) {
                learn(desk, spam, true);
                learn(desk, ham, false);
            }
            for (int first = 0; first <= 16; first++) {
                String text = words(1000, 1000 + first) + words(2000, 2016 - first) + words(1000 + first, 1002 + first);
                double[] weights = new double[18];
                int n = 0;
                for (String word : text.trim().split(" ")) {
                    if (!word.equals("w1016") && !word.equals("w1017")) {
                        weights[n++] = word.startsWith("w1") ? weight(times, 0, times, times) : weight(0, times, times, times);
                    }
                }
                desk.give(0, Desk.message(text));
                desk.sieve.clear(0);
                Desk.due("indicator of " + first + " first ones, " + times, desk.sieve.indicator(0), indicator(weights, n));
            }
        }
    }

    private static double weight(int s, int h, int spams, int hams) {
        double b = (double) s / spams;
        double g = (double) h / hams;
        double p = b / (b + g);
        double n = s + h;
        return (0.45 * 0.5 + n * p) / (0.45 + n);
    }

    private static double indicator(double[] weights, int n) {
        List<Double> strong = new ArrayList<>();
        for (int i = 0; i < n; i++) {
            if (Math.abs(weights[i] - 0.5) >= 0.1) {
                strong.add(weights[i]);
            }
        }
        // a stable sort: of the same strength the earlier one
        strong.sort((x, y) -> Double.compare(Math.abs(y - 0.5), Math.abs(x - 0.5)));
        int k = Math.min(15, strong.size());
        if (k == 0) {
            return 0.5;
        }
        double p = 1.0;
        double q = 1.0;
        for (int i = 0; i < k; i++) {
            p *= strong.get(i);
            q *= 1.0 - strong.get(i);
        }
        return (1.0 + chi(p, k) - chi(q, k)) / 2.0;
    }

    private static double chi(double x, int k) {
        double m = -ln(x);
        double sum = 1.0;
        double term = 1.0;
        for (int i = 1; i < k; i++) {
            term = term * m / i;
            sum += term;
        }
        return Math.min(1.0, x * sum);
    }

    private static double ln(double value) {
        double x = value;
        int e = 0;
        while (x < 0.5) {
            x *= 2.0;
            e++;
        }
        double y = (x - 1.0) / (x + 1.0);
        double r = 0.0;
        for (int j = 41; j >= 1; j -= 2) {
            r = r * (y * y) + 1.0 / j;
        }
        Desk.due("LN is near the logarithm", Math.abs(2.0 * y * r - e * 0.6931471805599453 - Math.log(value)) < 1e-12, true);
        return 2.0 * y * r - e * 0.6931471805599453;
    }
}
