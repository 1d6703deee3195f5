import java.util.ArrayList;
import java.util.LinkedHashSet;
import java.util.List;
import java.util.Set;

/** Term 8, sentence by sentence: words, tokens, entries, the journal and the indicator at their bounds. */
public final class Term8Test {
    public static void main(String[] args) {
        digests();
        wordChars();
        wordLengths();
        tokensInOrder();
        hostsOf40();
        eachDigestOnce();
        theFirst100();
        learning();
        twoHundredEntries();
        theLeastOfTheOldest();
        entriesStayAt65535();
        messagesStayAt65535();
        expiry();
        records();
        roomForLearning();
        roomForExpiry();
        crashesAtEachByte();
        crashesBehindSynced();
        crashesOfCompactOnes();
        replays();
        withoutSpamOrHam();
        strengths();
        theFifteenStrongest();
        theEarlierToken();
        chiIsAtMostOne();
        Desk.end();
    }

    private static Desk met() {
        Desk desk = new Desk();
        desk.meet(0, "");
        return desk;
    }

    private static Desk judged(String body, String... headers) {
        return new Desk().judge(body, headers);
    }

    private static int learn(Desk desk, String words, boolean spam) {
        desk.give(0, Desk.message(words));
        desk.sieve.clear(0);
        return desk.sieve.learn(0, spam);
    }

    private static int entry(Desk desk, String word, int what) {
        return desk.sieve.entry(Desk.digest(word), what);
    }

    private static String words(int from, int to) {
        StringBuilder all = new StringBuilder();
        for (int i = from; i < to; i++) {
            all.append("w").append(i).append(" ");
        }
        return all.toString();
    }

    /** The digests of the record 1 that stands in the journal from a place on. */
    private static List<Long> tokensOf(Desk desk, int at) {
        List<Long> all = new ArrayList<>();
        for (int i = 0; i < desk.sieve.journal(at + 6); i++) {
            long digest = 0;
            for (int k = 0; k < 8; k++) {
                digest = digest << 8 | desk.sieve.journal(at + 7 + 8 * i + k);
            }
            all.add(digest);
        }
        return all;
    }

    private static void tokens(Desk desk, String... want) {
        Desk.due("how many tokens", desk.sieve.session(0, 13), want.length);
        desk.sieve.learn(0, true);
        List<Long> digests = new ArrayList<>();
        for (String token : want) {
            digests.add(Desk.digest(token));
        }
        Desk.due("tokens " + String.join(" ", want), tokensOf(desk, 0), digests);
    }

    // ---- tokens

    private static void digests() {
        Desk.of("The DIGEST of bytes: h is -3750763034362895579; for each byte h is (h xor byte) times 1099511628211 (as longs go round)");
        long h = -3750763034362895579L;
        for (int b : new int[] {'a', 'b', 'c'}) {
            h = (h ^ b) * 1099511628211L;
        }
        Desk.due("of abc", h, Desk.digest("abc"));
        tokens(judged("abc"), "abc");
        Desk.of("A token is its digest, its chars as utf-8");
        String chars = "\u0080\u07ff\u0800 \uffff\ufffd\ue000 \ud800\udc00\udbff\udfff\u0100 ab\u00e9";
        tokens(judged(new String(chars.getBytes(java.nio.charset.StandardCharsets.UTF_8), java.nio.charset.StandardCharsets.ISO_8859_1),
            "Content-Type", "text/plain; charset=utf-8"), chars.split(" "));
    }

    private static void wordChars() {
        Desk.of("WORDS of chars: rows of letters, digits, ', $, -, and chars above 127, as long as they can be, SMALL");
        for (int c = 1; c < 256; c++) {
            boolean one = c >= 'a' && c <= 'z' || c >= 'A' && c <= 'Z' || c >= '0' && c <= '9' || c == '\'' || c == '$' || c == '-' || c > 127
                && c != 160;
            Desk desk = judged("xx" + (char) c + "yy", "Content-Type", "text/plain; charset=iso-8859-1");
            if (c == 13) {
                tokens(desk, "xxyy");
            } else if (one) {
                tokens(desk, "xx" + (char) (c >= 'A' && c <= 'Z' ? c + 32 : c) + "yy");
            } else {
                tokens(desk);
            }
        }
        tokens(judged("ABC \u00c0\u00c9x", "Content-Type", "text/plain; charset=iso-8859-1"), "abc", "\u00c0\u00c9x");
        tokens(judged("", "Subject", "ab\u00a0cd"), "s:ab\u00a0cd");
    }

    private static void wordLengths() {
        Desk.of("of 3 to 12 chars; others are none");
        for (int length = 1; length <= 26; length++) {
            String word = "abcdefghijklmnopqrstuvwxyz".substring(0, length);
            boolean one = length >= 3 && length <= 12;
            tokens(judged(word), one ? new String[] {word} : new String[0]);
            tokens(judged("", "Subject", word), one ? new String[] {"s:" + word} : new String[0]);
            tokens(judged("", "From", "(" + word + ")"), one ? new String[] {"f:" + word} : new String[0]);
            tokens(judged("." + word + ".x"), one ? new String[] {word} : new String[0]);
        }
        // chars, not bytes: three euros are nine bytes, thirteen are too many
        String euro = "\u00e2\u0082\u00ac";
        tokens(judged(euro.repeat(2) + " " + euro.repeat(3) + " " + euro.repeat(12) + " " + euro.repeat(13), "Content-Type",
            "text/plain; charset=utf-8"), "\u20ac".repeat(3), "\u20ac".repeat(12));
    }

    private static void tokensInOrder() {
        Desk.of("Tokens, in order: s: and each word of the CHARS of the field subject; f: and each of the field from; each word of the text; u: and the HOST of each uri");
        Desk desk = judged("text http://host.x/path more", "From", "me =?us-ascii?Q?you_there?=", "X", "none", "Subject",
            "=?us-ascii?Q?one?= =?us-ascii?Q?two?= end", "Subject", "second", "From", "third");
        tokens(desk, "s:onetwo", "s:end", "f:you", "f:there", "text", "http", "host", "path", "more", "u:host.x");
        tokens(judged("--q\n\none two\n--q\nContent-Type: a/b\n\nnone\n--q\nContent-Type: text/html\n\n<i>thr</i>ee &amp;four\n--q--", "Content-Type",
            "multipart/x; boundary=q"), "one", "two", "three", "four");
        tokens(judged("", "Subject", ""));
        tokens(judged("<a href=\"http://some.host\">", "Content-Type", "text/html"), "u:some.host");
    }

    private static void hostsOf40() {
        Desk.of("u: and the HOST of each uri (at most 40 chars of it)");
        for (int length : new int[] {1, 39, 40, 41, 100}) {
            String host = "h".repeat(length - 1) + "z";
            tokens(judged("<a href=\"http://" + host + "\">", "Content-Type", "text/html"), "u:" + host.substring(0, Math.min(40, length)));
        }
        tokens(judged("<a href=\"http://" + "h".repeat(40) + "1\"><a href=\"http://" + "h".repeat(40) + "2\">", "Content-Type", "text/html"), "u:"
            + "h".repeat(40));
    }

    private static void eachDigestOnce() {
        Desk.of("each digest counts once");
        tokens(judged("abc ABC abc def abc", "Subject", "abc Abc", "From", "abc"), "s:abc", "f:abc", "abc", "def");
        tokens(judged("http://a http://a http://A. http://b"), "http", "u:a", "u:b");
    }

    private static void theFirst100() {
        Desk.of("the first 100");
        for (int n : new int[] {99, 100, 101, 150}) {
            Desk desk = judged(words(1000, 1000 + n));
            Desk.due("tokens of " + n, desk.sieve.session(0, 13), Math.min(100, n));
            Desk.due("entries of " + n, desk.sieve.learn(0, true), Math.min(100, n));
            Desk.due("the 99th", entry(desk, "w1098", 0), 1);
            Desk.due("the 100th of " + n, entry(desk, "w1099", 0), n >= 100 ? 1 : -1);
            Desk.due("the 101st of " + n, entry(desk, "w1100", 0), -1);
        }
        Desk desk = judged(words(1000, 1098) + "w1000 w1001 http://h/", "Subject", "subj");
        Desk.due("those that came before do not count again", desk.sieve.session(0, 13), 100);
        desk.sieve.learn(0, true);
        Desk.due("http is the 100th", entry(desk, "http", 0), 1);
        Desk.due("the uri is left out", entry(desk, "u:h", 0), -1);
    }

    // ---- learning

    private static void learning() {
        Desk.of("LEARNING: its entry (made with 0, 0 at the end, if it is not there) gets 1 more of the kind, its LAST is now; then S or H gets 1 more");
        Desk desk = met();
        Desk.due("two", learn(desk, "one two", true), 2);
        desk.sieve.tick(4);
        Desk.due("three", learn(desk, "two three", false), 3);
        int[][] want = {{1, 0, 0}, {1, 1, 4}, {0, 1, 4}};
        String[] words = {"one", "two", "three"};
        for (int w = 0; w < 3; w++) {
            for (int what = 0; what < 3; what++) {
                Desk.due(words[w] + " " + what, entry(desk, words[w], what), want[w][what]);
            }
        }
        Desk.due("S", desk.sieve.state(5), 1);
        Desk.due("H", desk.sieve.state(6), 1);
        desk.sieve.compact();
        for (int w = 0; w < 3; w++) {
            long digest = 0;
            for (int k = 0; k < 8; k++) {
                digest = digest << 8 | desk.sieve.journal(6 + 18 * w + 1 + k);
            }
            Desk.due("in the order in which they came: " + w, digest, Desk.digest(words[w]));
        }
    }

    private static void twoHundredEntries() {
        Desk.of("THE STORE has at most 200 ENTRIES");
        Desk desk = met();
        Desk.due("100", learn(desk, words(1000, 1100), true), 100);
        desk.sieve.tick(1);
        Desk.due("199", learn(desk, words(1100, 1199), true), 199);
        desk.sieve.tick(1);
        Desk.due("200", learn(desk, "last200", true), 200);
        int there = 0;
        for (int i = 1000; i < 1199; i++) {
            there += entry(desk, "w" + i, 0) == 1 ? 1 : 0;
        }
        Desk.due("all of them", there, 199);
        desk.sieve.tick(1);
        Desk.due("one more", learn(desk, "last201", true), 200);
        Desk.due("it is there", entry(desk, "last201", 0), 1);
        Desk.due("those that are there need no room", learn(desk, words(1100, 1199), true), 200);
        Desk.due("the one that came latest stays", entry(desk, "last201", 0), 1);
        Desk.due("compact", desk.sieve.compact(), 6 + 200 * 18);
        Desk.due("a crash reads 200 again", desk.sieve.crash(0), 6 + 200 * 18);
        Desk.due("entries then", desk.sieve.state(4), 200);
    }

    private static void theLeastOfTheOldest() {
        Desk.of("(of 200 the one with the least LAST, of these with the least digest, as longs with their sign, goes ahead)");
        for (int young : new int[] {1000, 1190}) {
            leastGoes(young);
        }
    }

    /** LAST of a word: the ten from young on were learnt latest, those below 1,100 first. */
    private static int lastOf(String word, int young) {
        int n = Integer.parseInt(word.substring(1));
        return n >= young && n < young + 10 ? 2 : n < 1100 ? 0 : 1;
    }

    private static void leastGoes(int young) {
        Desk desk = met();
        learn(desk, words(1000, 1100), true);
        desk.sieve.tick(1);
        learn(desk, words(1100, 1200), true);
        List<String> left = new ArrayList<>();
        for (int i = 1000; i < 1200; i++) {
            left.add("w" + i);
        }
        desk.sieve.tick(1);
        learn(desk, words(young, young + 10), false);
        desk.sieve.tick(1);
        for (int n = 0; n < 200; n++) {
            String least = left.get(0);
            for (String word : left) {
                int order = Integer.compare(lastOf(word, young), lastOf(least, young));
                if (order < 0 || order == 0 && Desk.digest(word) < Desk.digest(least)) {
                    least = word;
                }
            }
            desk.sieve.compact();
            Desk.due("it is there ahead of " + n, entry(desk, least, 0), 1);
            Desk.due("200", learn(desk, "new" + (1000 + n), true), 200);
            Desk.due("it went at " + n, entry(desk, least, 0), -1);
            left.remove(least);
            int there = 0;
            for (String word : left) {
                there += entry(desk, word, 2) == lastOf(word, young) ? 1 : 0;
            }
            Desk.due("the others stay as they are at " + n, there, left.size());
        }
    }

    private static void entriesStayAt65535() {
        Desk.of("SPAM, HAM (each at most 65,535: it stays so)");
        for (int kind = 0; kind < 2; kind++) {
            boolean spam = kind == 0;
            Desk desk = met();
            desk.give(0, Desk.message("word"));
            for (int i = 1; i <= 65537; i++) {
                if (desk.sieve.learn(0, spam) == -2) {
                    desk.sieve.compact();
                    desk.sieve.learn(0, spam);
                }
                if (i >= 65533) {
                    Desk.due("count of " + i, entry(desk, "word", kind), Math.min(65535, i));
                    Desk.due("messages of " + i, desk.sieve.state(5 + kind), Math.min(65535, i));
                }
            }
            Desk.due("the other count", entry(desk, "word", 1 - kind), 0);
            Desk.due("the other messages", desk.sieve.state(6 - kind), 0);
            desk.sieve.learn(0, !spam);
            Desk.due("the other count goes on", entry(desk, "word", 1 - kind), 1);
            desk.sieve.compact();
            desk.sieve.crash(0);
            Desk.due("read again", entry(desk, "word", kind), 65535);
        }
    }

    private static void messagesStayAt65535() {
        Desk.of("and how many messages were learnt as spam, S, and as ham, H (likewise)");
        Desk desk = met();
        desk.give(0, Desk.message(""));
        for (int i = 0; i < 65534; i++) {
            if (desk.sieve.learn(0, true) == -2) {
                desk.sieve.compact();
                desk.sieve.learn(0, true);
            }
        }
        Desk.due("S", desk.sieve.state(5), 65534);
        desk.sieve.compact();
        desk.sieve.learn(0, true);
        Desk.due("one more", desk.sieve.state(5), 65535);
        desk.sieve.learn(0, true);
        Desk.due("it stays so", desk.sieve.state(5), 65535);
        Desk.due("H", desk.sieve.state(6), 0);
        desk.sieve.crash(16);
        Desk.due("read again", desk.sieve.state(5), 65535);
        desk.sieve.compact();
        Desk.due("its bytes", desk.sieve.journal(1) * 256 + desk.sieve.journal(2), 65535);
    }

    private static void expiry() {
        Desk.of("EXPIRY at a time T: entries whose LAST is below T go");
        for (int t : new int[] {0, 9, 10, 11, 19, 20, 21, 100000000}) {
            Desk desk = met();
            desk.sieve.tick(10);
            learn(desk, "one two", true);
            desk.sieve.tick(10);
            learn(desk, "two three four", true);
            int want = t <= 10 ? 0 : t <= 20 ? 1 : 4;
            Desk.due("went at " + t, desk.sieve.expire(t), want);
            Desk.due("one at " + t, entry(desk, "one", 2), want == 0 ? 10 : -1);
            Desk.due("two at " + t, entry(desk, "two", 2), want < 4 ? 20 : -1);
            Desk.due("entries at " + t, desk.sieve.state(4), 4 - want);
            Desk.due("S stays at " + t, desk.sieve.state(5), 2);
        }
        Desk desk = met();
        Desk.due("of an empty store", desk.sieve.expire(5), 0);
        Desk.due("its record", desk.sieve.state(7), 6);
    }

    // ---- the journal

    private static void bytes(List<Integer> to, long number, int bytes) {
        for (int shift = 8 * bytes - 8; shift >= 0; shift -= 8) {
            to.add((int) (number >> shift & 255));
        }
    }

    private static void ended(List<Integer> record, int from) {
        int sum = 0;
        for (int i = from; i < record.size(); i++) {
            sum += record.get(i);
        }
        record.add(sum % 256);
    }

    private static List<Integer> journal(Desk desk) {
        List<Integer> all = new ArrayList<>();
        for (int i = 0; desk.sieve.journal(i) >= 0; i++) {
            all.add(desk.sieve.journal(i));
        }
        return all;
    }

    private static void records() {
        Desk.of("each ended by a byte that is the sum of its bytes ahead of that, modulo 256: 1, a byte 1 (spam) or 0, the time, how many tokens, their digests: a message learnt; 2, T: an expiry");
        Desk desk = met();
        desk.sieve.tick(86400);
        desk.sieve.tick(86400);
        learn(desk, "one two three", true);
        learn(desk, "", false);
        desk.sieve.expire(99999999);
        learn(desk, words(1000, 1100), false);
        List<Integer> want = new ArrayList<>(List.of(1, 1));
        bytes(want, 172800, 4);
        want.add(3);
        for (String word : new String[] {"one", "two", "three"}) {
            bytes(want, Desk.digest(word), 8);
        }
        ended(want, 0);
        int from = want.size();
        want.addAll(List.of(1, 0));
        bytes(want, 172800, 4);
        want.add(0);
        ended(want, from);
        from = want.size();
        want.add(2);
        bytes(want, 99999999, 4);
        ended(want, from);
        from = want.size();
        want.addAll(List.of(1, 0));
        bytes(want, 172800, 4);
        want.add(100);
        for (int i = 1000; i < 1100; i++) {
            bytes(want, Desk.digest("w" + i), 8);
        }
        ended(want, from);
        Desk.due("the journal", journal(desk), want);
        Desk.of("3, S (2), H (2); 4, a digest (8), SPAM (2), HAM (2), LAST (4)");
        desk = met();
        desk.sieve.tick(70000);
        for (int i = 0; i < 300; i++) {
            learn(desk, "word", true);
        }
        learn(desk, "word other", false);
        Desk.due("bytes", desk.sieve.compact(), 6 + 36);
        want = new ArrayList<>();
        want.add(3);
        bytes(want, 300, 2);
        bytes(want, 1, 2);
        ended(want, 0);
        for (int k = 0; k < 2; k++) {
            from = want.size();
            want.add(4);
            bytes(want, Desk.digest(k == 0 ? "word" : "other"), 8);
            bytes(want, k == 0 ? 300 : 0, 2);
            bytes(want, 1, 2);
            bytes(want, 70000, 4);
            ended(want, from);
        }
        Desk.due("the journal when compacted", journal(desk), want);
    }

    /** A journal with so many bytes left; its latest message has no tokens. */
    private static Desk left(int bytes) {
        Desk desk = met();
        desk.give(0, Desk.message(words(1000, 1100)));
        for (int i = 0; i < 13; i++) {
            desk.sieve.learn(0, true);
        }
        // 10,504 bytes are told now; records of 8 and of 6 bytes fill the rest
        int rest = 12000 - 10504 - bytes;
        while (rest % 8 != 0) {
            desk.sieve.expire(0);
            rest -= 6;
        }
        desk.give(0, Desk.message(""));
        for (; rest > 0; rest -= 8) {
            desk.sieve.learn(0, true);
        }
        desk.sieve.clear(0);
        Desk.due("bytes", desk.sieve.state(7), 12000 - bytes);
        return desk;
    }

    private static void roomForLearning() {
        Desk.of("THE JOURNAL has at most 12,000 bytes: a message learnt");
        for (int bytes : new int[] {0, 2, 4, 6, 8, 10, 14, 16, 18, 800, 806, 808, 810}) {
            for (int tokens : new int[] {0, 1, 100}) {
                Desk desk = left(bytes);
                int spams = desk.sieve.state(5);
                desk.sieve.tick(7);
                desk.give(0, Desk.message(words(2000, 2000 + tokens)));
                boolean room = 8 + 8 * tokens <= bytes;
                Desk.due(tokens + " tokens with " + bytes + " left", desk.sieve.learn(0, true), room ? 100 + tokens : -2);
                Desk.due("bytes then", desk.sieve.state(7), 12000 - bytes + (room ? 8 + 8 * tokens : 0));
                Desk.due("S then", desk.sieve.state(5), room ? spams + 1 : spams);
                Desk.due("entries then", desk.sieve.state(4), room ? 100 + tokens : 100);
                Desk.due("behind the last byte", desk.sieve.journal(desk.sieve.state(7)), -1);
            }
        }
    }

    private static void roomForExpiry() {
        Desk.of("THE JOURNAL has at most 12,000 bytes: an expiry");
        for (int bytes : new int[] {0, 2, 4, 6, 8}) {
            Desk desk = left(bytes);
            desk.sieve.tick(7);
            boolean room = bytes >= 6;
            Desk.due("expiry with " + bytes + " left", desk.sieve.expire(7), room ? 100 : -2);
            Desk.due("entries then", desk.sieve.state(4), room ? 0 : 100);
            Desk.due("bytes then", desk.sieve.state(7), 12000 - bytes + (room ? 6 : 0));
        }
        Desk full = left(0);
        Desk.due("the last byte", full.sieve.journal(11999) >= 0, true);
        Desk.due("all of them are read again", full.sieve.crash(12000), 12000);
        Desk.due("synced", full.sieve.state(8), 12000);
        Desk.due("compact makes room", full.sieve.compact(), 6 + 1800);
        Desk.due("for an expiry", full.sieve.expire(0), 0);
    }

    private static void crashesAtEachByte() {
        Desk.of("a CRASH leaves some bytes behind these: then the store is empty, and the records are done up to the first that is not whole and right; what is behind goes, all is synced");
        // records of 24, 8, 6, 16 and 6 bytes
        int[] ends = {0, 24, 32, 38, 54, 60};
        int[][] told = {{0, 0, 0}, {2, 1, 0}, {2, 1, 1}, {0, 1, 1}, {1, 2, 1}, {1, 2, 1}};
        for (int leave = 0; leave <= 60; leave++) {
            Desk desk = met();
            desk.sieve.tick(9);
            learn(desk, "one two", true);
            learn(desk, "", false);
            desk.sieve.expire(10);
            learn(desk, "three", true);
            desk.sieve.expire(9);
            Desk.due("bytes", desk.sieve.state(7), 60);
            int whole = 0;
            for (int k = 0; k < ends.length; k++) {
                whole = ends[k] <= leave ? k : whole;
            }
            Desk.due("crash " + leave, desk.sieve.crash(leave), ends[whole]);
            for (int k = 0; k < 3; k++) {
                Desk.due("state " + (4 + k) + " behind crash " + leave, desk.sieve.state(4 + k), told[whole][k]);
            }
            Desk.due("bytes behind crash " + leave, desk.sieve.state(7), ends[whole]);
            Desk.due("synced behind crash " + leave, desk.sieve.state(8), ends[whole]);
            Desk.due("nothing behind these", desk.sieve.journal(ends[whole]), -1);
            Desk.due("a crash then", desk.sieve.crash(0), ends[whole]);
            Desk.due("and one of more", desk.sieve.crash(1), -1);
            Desk.due("it goes on", learn(desk, "four", true), told[whole][0] + 1);
            Desk.due("its bytes", desk.sieve.state(7), ends[whole] + 16);
        }
    }

    private static void crashesBehindSynced() {
        Desk.of("What is SYNCED stays");
        for (int leave = 0; leave <= 16; leave++) {
            Desk desk = met();
            learn(desk, "one two", true);
            Desk.due("sync", desk.sieve.sync(), 24);
            learn(desk, "three", true);
            Desk.due("synced", desk.sieve.state(8), 24);
            Desk.due("crash of " + leave, desk.sieve.crash(leave), leave == 16 ? 40 : 24);
            Desk.due("entries", desk.sieve.state(4), leave == 16 ? 3 : 2);
        }
        Desk desk = met();
        learn(desk, "one", true);
        desk.sieve.sync();
        Desk.due("all synced, nothing left behind", desk.sieve.crash(0), 16);
        Desk.due("one more than there are", desk.sieve.crash(1), -1);
        Desk.due("below 0", desk.sieve.crash(-1), -1);
    }

    private static void crashesOfCompactOnes() {
        Desk.of("(3: S and H are so; 4: an entry at the end)");
        Desk desk = met();
        desk.sieve.tick(11);
        learn(desk, "one two", true);
        desk.sieve.tick(11);
        learn(desk, "two three", false);
        desk.sieve.compact();
        learn(desk, "four two", true);
        desk.sieve.expire(22);
        List<Integer> before = journal(desk);
        Desk.due("all of it", desk.sieve.crash(30), before.size());
        Desk.due("the same bytes", journal(desk), before);
        String[] words = {"one", "two", "three", "four"};
        int[][] want = {{-1, -1, -1}, {2, 1, 22}, {0, 1, 22}, {1, 0, 22}};
        for (int w = 0; w < 4; w++) {
            for (int what = 0; what < 3; what++) {
                Desk.due(words[w] + " " + what, entry(desk, words[w], what), want[w][what]);
            }
        }
        Desk.due("S", desk.sieve.state(5), 2);
        Desk.due("H", desk.sieve.state(6), 1);
        desk.sieve.compact();
        Desk.due("in their order", desk.sieve.journal(7), (int) (Desk.digest("two") >>> 56));
    }

    private static void replays() {
        Desk.of("the records are done from the beginning");
        Desk desk = met();
        desk.sieve.tick(5);
        learn(desk, words(1000, 1100), true);
        desk.sieve.tick(1);
        learn(desk, words(1100, 1200), false);
        desk.sieve.tick(1);
        learn(desk, words(1150, 1230), true);
        desk.sieve.expire(6);
        learn(desk, "one more", false);
        Set<String> before = new LinkedHashSet<>();
        for (int i = 1000; i < 1230; i++) {
            before.add(i + " " + entry(desk, "w" + i, 0) + " " + entry(desk, "w" + i, 1) + " " + entry(desk, "w" + i, 2));
        }
        int entries = desk.sieve.state(4);
        int bytes = desk.sieve.state(7);
        desk.sieve.tick(1000);
        Desk.due("all of it is read again", desk.sieve.crash(bytes), bytes);
        Set<String> behind = new LinkedHashSet<>();
        for (int i = 1000; i < 1230; i++) {
            behind.add(i + " " + entry(desk, "w" + i, 0) + " " + entry(desk, "w" + i, 1) + " " + entry(desk, "w" + i, 2));
        }
        Desk.due("the same store", behind, before);
        Desk.due("as many entries", desk.sieve.state(4), entries);
        Desk.due("the clock stays", desk.sieve.state(0), 1007);
    }

    // ---- the indicator

    private static void withoutSpamOrHam() {
        Desk.of("THE INDICATOR of a message: 0.5 when S or H is 0; without any token 0.5");
        Desk desk = met();
        desk.give(0, Desk.message("word"));
        Desk.due("nothing learnt", desk.sieve.indicator(0), 0.5);
        desk.sieve.learn(0, true);
        desk.give(0, Desk.message("word"));
        Desk.due("spam alone", desk.sieve.indicator(0), 0.5);
        learn(desk, "other", false);
        desk.give(0, Desk.message("word"));
        Desk.due("both", desk.sieve.indicator(0) > 0.5, true);
        desk.give(0, Desk.message("other"));
        Desk.due("of ham", desk.sieve.indicator(0) < 0.5, true);
        desk.give(0, Desk.message("unknown"));
        Desk.due("no entry", desk.sieve.indicator(0), 0.5);
        desk.give(0, Desk.message(""));
        Desk.due("no token", desk.sieve.indicator(0), 0.5);
        Desk ham = met();
        learn(ham, "word", false);
        ham.give(0, Desk.message("word"));
        Desk.due("ham alone", ham.sieve.indicator(0), 0.5);
    }

    private static double weight(int s, int h, int spams, int hams) {
        double b = (double) s / spams;
        double g = (double) h / hams;
        double p = b / (b + g);
        double n = s + h;
        return (0.45 * 0.5 + n * p) / (0.45 + n);
    }

    private static double indicator(List<Double> weights) {
        List<Double> strong = new ArrayList<>();
        for (double f : weights) {
            if (Math.abs(f - 0.5) >= 0.1) {
                strong.add(f);
            }
        }
        strong.sort((x, y) -> Double.compare(Math.abs(y - 0.5), Math.abs(x - 0.5)));
        int k = Math.min(15, strong.size());
        double p = 1.0;
        double q = 1.0;
        for (int i = 0; i < k; i++) {
            p = p * strong.get(i);
            q = q * (1.0 - strong.get(i));
        }
        return k == 0 ? 0.5 : (1.0 + chi(p, k) - chi(q, k)) / 2.0;
    }

    private static double chi(double x, int k) {
        return uncapped(x, k) > 1.0 ? 1.0 : uncapped(x, k);
    }

    private static double ln(double value) {
        double x = value;
        int e = 0;
        while (x < 0.5) {
            x = x * 2.0;
            e = e + 1;
        }
        double y = (x - 1.0) / (x + 1.0);
        double z = y * y;
        double r = 0.0;
        for (int j = 41; j >= 1; j -= 2) {
            r = r * z + 1.0 / j;
        }
        return 2.0 * y * r - e * 0.6931471805599453;
    }

    private static void strengths() {
        Desk.of("Of those with the strength, the size of f - 0.5, 0.1 or more");
        // SPAM 2 of S and HAM 1 of 123: at S 154 f is 0.6 but for the rounding, and as far on the other side for the twin
        int below = 0;
        int above = 0;
        for (int twin = 0; twin < 2; twin++) {
            boolean kind = twin == 0;
            Desk desk = met();
            learn(desk, "word", kind);
            learn(desk, "word", kind);
            learn(desk, "word", !kind);
            desk.give(0, Desk.message(""));
            for (int i = 1; i < 123; i++) {
                desk.sieve.learn(0, !kind);
            }
            for (int n = 2; n < 150; n++) {
                desk.sieve.learn(0, kind);
            }
            for (int n = 150; n <= 160; n++) {
                double f = kind ? weight(2, 1, n, 123) : weight(1, 2, 123, n);
                desk.give(0, Desk.message("word"));
                Desk.due("indicator of " + n + ", strength " + Math.abs(f - 0.5), desk.sieve.indicator(0), indicator(List.of(f)));
                below += Math.abs(f - 0.5) < 0.1 ? 1 : 0;
                above += Math.abs(f - 0.5) >= 0.1 ? 1 : 0;
                Desk.due("half or not at " + n, desk.sieve.indicator(0) == 0.5, Math.abs(f - 0.5) < 0.1);
                desk.give(0, Desk.message(""));
                desk.sieve.learn(0, kind);
                desk.sieve.clear(0);
            }
        }
        Desk.due("some were below", below > 4, true);
        Desk.due("some were above", above > 4, true);
    }

    private static void theFifteenStrongest() {
        Desk.of("the 15 of the greatest strength, the strongest first");
        // 20 words, learnt as spam 1 to 20 times of 20, so that all are of different strength; one of ham
        Desk desk = met();
        for (int i = 0; i < 20; i++) {
            learn(desk, words(1000, 1001 + i), true);
            learn(desk, "ham" + (i % 7), false);
        }
        for (int n = 1; n <= 20; n++) {
            for (int turned = 0; turned < 2; turned++) {
                StringBuilder text = new StringBuilder();
                List<Double> weights = new ArrayList<>();
                for (int i = 0; i < n; i++) {
                    int w = turned == 1 ? n - 1 - i : i;
                    text.append("w").append(1000 + w).append(" ");
                    weights.add(weight(20 - w, 0, 20, 20));
                }
                for (int k = 0; k < 3; k++) {
                    text.append("ham").append(k).append(" ");
                    weights.add(weight(0, k < 6 ? 3 : 2, 20, 20));
                }
                desk.give(0, Desk.message(text.toString()));
                desk.sieve.clear(0);
                Desk.due("indicator of " + n + " and 3, turned " + turned, desk.sieve.indicator(0), indicator(weights));
            }
        }
    }

    private static void theEarlierToken() {
        Desk.of("of the same the earlier token");
        // words of spam and ham that are as strong: which of them are the 15 depends on their order alone
        Desk desk = met();
        for (int i = 0; i < 4; i++) {
            learn(desk, words(1000, 1016), true);
            learn(desk, words(2000, 2016), false);
        }
        for (int spams = 0; spams <= 16; spams++) {
            for (int turned = 0; turned < 2; turned++) {
                String first = words(1000, 1000 + spams);
                String second = words(2000, 2016);
                List<Double> weights = new ArrayList<>();
                for (String word : (turned == 1 ? second + first : first + second).trim().split(" ")) {
                    if (!word.isEmpty()) {
                        weights.add(word.startsWith("w1") ? weight(4, 0, 4, 4) : weight(0, 4, 4, 4));
                    }
                }
                desk.give(0, Desk.message(turned == 1 ? second + first : first + second));
                desk.sieve.clear(0);
                Desk.due("indicator of " + spams + ", turned " + turned, desk.sieve.indicator(0), indicator(weights));
            }
        }
    }

    private static void chiIsAtMostOne() {
        Desk.of("CHI(X): X * sum, but 1.0 when that is above it");
        int above = 0;
        for (int words = 2; words <= 15; words++) {
            Desk desk = met();
            learn(desk, "ham", false);
            for (int n = 1; n <= 130; n++) {
                learn(desk, words(1000, 1000 + words), true);
                desk.sieve.compact();
                List<Double> weights = new ArrayList<>();
                double p = 1.0;
                double q = 1.0;
                for (int i = 0; i < words; i++) {
                    weights.add(weight(n, 0, n, 1));
                    p = p * weight(n, 0, n, 1);
                    q = q * (1.0 - weight(n, 0, n, 1));
                }
                desk.give(0, Desk.message(words(1000, 1000 + words)));
                desk.sieve.clear(0);
                Desk.due("indicator of " + words + " words learnt " + n + " times", desk.sieve.indicator(0), indicator(weights));
                double capped = (1.0 + chi(p, words) - chi(q, words)) / 2.0;
                double free = (1.0 + uncapped(p, words) - uncapped(q, words)) / 2.0;
                above += free != capped ? 1 : 0;
            }
        }
        Desk.due("it was above in some", above > 5, true);
    }

    private static double uncapped(double x, int k) {
        double m = -ln(x);
        double sum = 1.0;
        double term = 1.0;
        for (int i = 1; i <= k - 1; i++) {
            term = term * m / i;
            sum = sum + term;
        }
        return x * sum;
    }
}
