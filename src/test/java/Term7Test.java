/** Term 7, sentence by sentence: queries, answers and the cache at their bounds. */
public final class Term7Test {
    private static final String A = "\u00c0\u000c\0\u0001\0\u0001";
    private static final String NINE = "\0\0\0\u0009";

    public static void main(String[] args) {
        names();
        packets();
        valuesAndOpenQueries();
        atMostTwelve();
        ids();
        idsGoRound();
        fiveSeconds();
        shortAnswers();
        idsOfAnswers();
        thirdBytes();
        questionCounts();
        questions();
        answerCounts();
        answersWithin();
        recordNames();
        behindTheAnswers();
        codes();
        bits();
        lives();
        theCacheInARow();
        theCacheOfSixteen();
        whatGoesOn();
        whoGoesOn();
        Desk.end();
    }

    private static Desk zones(String... zones) {
        Desk desk = new Desk();
        for (int i = 0; i < zones.length; i++) {
            desk.line("zone " + zones[i]);
            desk.line("listed Z" + i + " " + i + " 255");
        }
        Desk.due("load", desk.sieve.load(), zones.length);
        return desk;
    }

    private static String query(Desk desk, int k) {
        StringBuilder all = new StringBuilder();
        for (int i = 0; desk.sieve.query(k, i) >= 0; i++) {
            all.append((char) desk.sieve.query(k, i));
        }
        return all.toString();
    }

    private static String question(String name) {
        StringBuilder all = new StringBuilder();
        for (String label : name.split("\\.")) {
            all.append((char) label.length()).append(label);
        }
        return all + "\0\0\u0001\0\u0001";
    }

    private static String packet(int id, String name) {
        return "" + (char) (id / 256) + (char) (id % 256) + "\u0001\0\0\u0001\0\0\0\0\0\0" + question(name);
    }

    private static String reply(String query, int third, int fourth, int answers, String records) {
        return query.substring(0, 2) + (char) third + (char) fourth + "\0\u0001" + (char) (answers / 256) + (char) (answers % 256) + "\0\0\0\0"
            + query.substring(12) + records;
    }

    private static String record(String start, String life, String data) {
        return start + life + (char) (data.length() / 256) + (char) (data.length() % 256) + data;
    }

    private static String life(long seconds) {
        return Desk.number((int) seconds);
    }

    private static void tick(Desk desk, int seconds) {
        for (int left = seconds; left > 0; left -= 86400) {
            desk.sieve.tick(Math.min(left, 86400));
        }
    }

    // ---- queries

    private static void names() {
        Desk.of("LOOKING UP an address a.b.c.d in a zone: its NAME is d.c.b.a.zone");
        String[] addresses = {"1.2.3.4", "0.0.0.0", "255.255.255.255", "9.10.11.19", "99.100.101.109", "110.199.200.209", "20.90.240.5"};
        for (String address : addresses) {
            String[] n = address.split("\\.");
            for (String zone : new String[] {"a", "a.b", "bl-1.example.org", "a".repeat(20) + "." + "b".repeat(19), "a.".repeat(19) + "bc"}) {
                Desk desk = zones(zone);
                desk.meet(0, address);
                Desk.due("the query for " + address + " in " + zone, query(desk, 0), packet(1, n[3] + "." + n[2] + "." + n[1] + "." + n[0] + "."
                    + zone));
            }
        }
    }

    private static void packets() {
        Desk.of("it is a packet: ID in two bytes, 1, 0, 0, 1, six times 0, of each label of the name its length and its bytes, 0, 0, 1, 0, 1");
        Desk desk = zones("a");
        desk.meet(0, "1.2.3.4");
        Desk.due("its bytes", query(desk, 0), "\0\u0001\u0001\0\0\u0001\0\0\0\0\0\0\u00014\u00013\u00012\u00011\u0001a\0\0\u0001\0\u0001");
        int length = query(desk, 0).length();
        Desk.due("behind its last byte", desk.sieve.query(0, length), -1);
        Desk.due("its last byte", desk.sieve.query(0, length - 1), 1);
        Desk.due("ahead of its first", desk.sieve.query(0, -1), -1);
        Desk.due("no query ahead of it", desk.sieve.query(-1, 0), -1);
        Desk.due("no query behind it", desk.sieve.query(1, 0), -1);
    }

    private static void valuesAndOpenQueries() {
        Desk.of("When the CACHE has a value for it that is still good (its end is above now), or a QUERY for it is open, nothing");
        Desk desk = zones("a", "a");
        desk.meet(0, "1.2.3.4");
        Desk.due("the same zone twice", desk.sieve.state(9), 1);
        desk.meet(1, "1.2.3.4");
        Desk.due("another session's", desk.sieve.state(9), 1);
        desk.meet(2, "1.2.3.5");
        Desk.due("another address", desk.sieve.state(9), 2);
        desk.sieve.tick(5);
        Desk.due("both are over", desk.sieve.state(9), 0);
        for (int late = -1; late <= 1; late++) {
            desk = zones("a");
            desk.meet(0, "1.2.3.4");
            desk.answer(reply(query(desk, 0), 128, 0, 1, record(A, NINE, "\u007f\0\0\u0001")));
            desk.sieve.tick(9 + late);
            desk.meet(0, "1.2.3.4");
            Desk.due("a query behind 9 and " + late, desk.sieve.state(9), late < 0 ? 0 : 1);
        }
        desk = zones("a", "b");
        desk.meet(0, "1.2.3.4");
        desk.answer(reply(query(desk, 0), 128, 3, 0, ""));
        desk.sieve.tick(5);
        desk.meet(0, "1.2.3.4");
        Desk.due("of two zones the one without a value", query(desk, 0), packet(3, "4.3.2.1.b"));
        Desk.due("it alone", desk.sieve.state(9), 1);
    }

    private static void atMostTwelve() {
        Desk.of("else a query comes at the end of those that are open, if there are fewer than 12");
        Desk desk = zones("a", "b", "c");
        for (int i = 0; i < 3; i++) {
            desk.meet(0, "1.2.3." + i);
        }
        Desk.due("nine", desk.sieve.state(9), 9);
        desk.line("clear");
        desk.line("zone a");
        desk.sieve.load();
        desk.meet(0, "1.2.3.10");
        desk.meet(0, "1.2.3.11");
        Desk.due("eleven", desk.sieve.state(9), 11);
        desk.line("zone b");
        desk.sieve.load();
        desk.meet(0, "1.2.3.12");
        Desk.due("twelve", desk.sieve.state(9), 12);
        Desk.due("the twelfth", query(desk, 11), packet(12, "12.3.2.1.a"));
        Desk.due("the first stays the oldest", query(desk, 0), packet(1, "0.3.2.1.a"));
        desk.meet(0, "1.2.3.13");
        Desk.due("no thirteenth", desk.sieve.state(9), 12);
        desk.give(0, Desk.message("x"));
        Desk.due("nothing to wait for", desk.sieve.session(0, 0), 3);
        Desk.due("one is answered", desk.answer(reply(query(desk, 5), 128, 2, 0, "")), 1);
        desk.meet(0, "1.2.3.13");
        Desk.due("room for one", query(desk, 11), packet(13, "13.3.2.1.a"));
        String[] names = {"0.3.2.1.a", "0.3.2.1.b", "0.3.2.1.c", "1.3.2.1.a", "1.3.2.1.b", "2.3.2.1.a", "2.3.2.1.b", "2.3.2.1.c", "10.3.2.1.a",
            "11.3.2.1.a", "12.3.2.1.a", "13.3.2.1.a"};
        for (int k = 0; k < 12; k++) {
            Desk.due("the others stay, query " + k, query(desk, k), packet(k < 5 ? k + 1 : k + 2, names[k]));
        }
        Desk.due("no query 12", desk.sieve.query(12, 0), -1);
        desk.sieve.tick(5);
        for (int k = 0; k <= 12; k++) {
            Desk.due("over: query " + k, desk.sieve.query(k, 0), -1);
        }
    }

    private static void ids() {
        Desk.of("its ID is one more than that of the query before (1 at first)");
        Desk desk = zones("a");
        for (int i = 1; i <= 30; i++) {
            desk.meet(0, "1.2.3." + i);
            Desk.due("id " + i, query(desk, 0), packet(i, i + ".3.2.1.a"));
            if (i % 2 == 0) {
                desk.answer(reply(query(desk, 0), 128, 2, 0, ""));
            } else {
                desk.sieve.tick(5);
            }
        }
    }

    private static void idsGoRound() {
        Desk.of("behind 65,535 comes 1");
        Desk desk = zones("a", "b", "c");
        // twelve queries in five seconds
        StringBuilder all = new StringBuilder();
        for (int i = 0; i < 4; i++) {
            all.append(Desk.packet('K', "")).append(Desk.client("1.2.3." + i));
        }
        desk.meet(0, "");
        for (int i = 0; i < 65532 / 12; i++) {
            desk.give(0, all.toString());
            if (i % 50 == 21 || i == 65532 / 12 - 1) {
                for (int k = 0; k < 12; k++) {
                    Desk.due("id of round " + i, desk.sieve.query(k, 0) * 256 + desk.sieve.query(k, 1), 12 * i + k + 1);
                }
            }
            desk.sieve.tick(5);
            desk.sieve.clear(0);
        }
        desk.give(0, all.toString());
        int[] want = {65533, 65534, 65535, 1, 2, 3};
        for (int k = 0; k < want.length; k++) {
            Desk.due("id " + k, desk.sieve.query(k, 0) * 256 + desk.sieve.query(k, 1), want[k]);
        }
        Desk.due("an answer to the last of them", desk.answer(reply(query(desk, 2), 128, 3, 0, "")), 1);
        Desk.due("an answer to the first of them", desk.answer(reply(query(desk, 2), 128, 3, 0, "")), 1);
    }

    private static void fiveSeconds() {
        Desk.of("It is over when it is answered, or behind 5 seconds (when the clock is its time and 5, or more)");
        for (int seconds : new int[] {1, 4, 5, 6, 86400}) {
            Desk desk = zones("a");
            desk.sieve.tick(7);
            desk.meet(0, "1.2.3.4");
            String q = query(desk, 0);
            desk.sieve.tick(seconds);
            Desk.due("open behind " + seconds, desk.sieve.state(9), seconds < 5 ? 1 : 0);
            Desk.due("an answer behind " + seconds, desk.answer(reply(q, 128, 3, 0, "")), seconds < 5 ? 1 : 0);
            Desk.due("values behind " + seconds, desk.sieve.state(10), seconds < 5 ? 1 : 0);
        }
        Desk desk = zones("a");
        desk.meet(0, "1.2.3.4");
        desk.sieve.tick(3);
        desk.meet(0, "1.2.3.5");
        desk.meet(1, "1.2.3.4");
        Desk.due("a second look does not make it younger", desk.sieve.state(9), 2);
        desk.sieve.tick(2);
        Desk.due("the older one is over", query(desk, 0), packet(2, "5.3.2.1.a"));
        desk.sieve.tick(3);
        Desk.due("and the younger one", desk.sieve.state(9), 0);
        desk = zones("a");
        desk.meet(0, "1.2.3.4");
        desk.sieve.tick(3);
        desk.meet(0, "1.2.3.5");
        desk.answer(reply(query(desk, 0), 128, 2, 0, ""));
        desk.sieve.tick(4);
        Desk.due("one behind an answered one keeps its time", desk.sieve.state(9), 1);
        desk.sieve.tick(1);
        Desk.due("and is over in time", desk.sieve.state(9), 0);
    }

    // ---- answers

    /** Whether an answer to the query for 10.0.0.1 in the zone Ab.c is taken; nothing is done when it is not. */
    private static void taken(String what, boolean want, String packet) {
        for (String behind : new String[] {"", "\0".repeat(80), good().substring(Math.min(packet.length(), good().length()))}) {
            taken(what, want, packet, behind);
        }
    }

    /** The bytes behind the packet on the tape are none of it. */
    private static void taken(String what, boolean want, String packet, String behind) {
        Desk desk = zones("xy.z");
        desk.meet(0, "10.0.0.1");
        desk.tape(Desk.bytes(packet + behind));
        Desk.due("taken: " + what, desk.sieve.answer(packet.length()), want ? 1 : 0);
        Desk.due("the tape behind it: " + what, desk.sieve.state(12), 0);
        Desk.due("open: " + what, desk.sieve.state(9), want ? 0 : 1);
        if (!want) {
            Desk.due("values: " + what, desk.sieve.state(10), 0);
        }
    }

    private static String first() {
        return packet(1, "1.0.0.10.xy.z");
    }

    private static String good() {
        return reply(first(), 128, 0, 1, record(A, NINE, "\u007f\0\0\u0002"));
    }

    private static void shortAnswers() {
        Desk.of("AN ANSWER is TAKEN when it is a packet of 12 bytes and more");
        taken("all of it", true, good());
        for (int length = 0; length < good().length(); length++) {
            taken(length + " bytes of it", false, good().substring(0, length));
        }
        taken("12 bytes and the question", true, reply(first(), 128, 0, 0, ""));
    }

    private static void idsOfAnswers() {
        Desk.of("with the ID of an open query");
        taken("id 1", true, "\0\u0001" + good().substring(2));
        taken("id 0", false, "\0\0" + good().substring(2));
        taken("id 2", false, "\0\u0002" + good().substring(2));
        taken("id 257", false, "\u0001\u0001" + good().substring(2));
        Desk desk = zones("a", "b");
        desk.meet(0, "1.2.3.4");
        Desk.due("the id of one, the question of the other", desk.answer(query(desk, 0).substring(0, 2) + reply(query(desk, 1), 128, 0, 0,
            "").substring(2)), 0);
        Desk.due("the younger one first", desk.answer(reply(query(desk, 1), 128, 0, 0, "")), 1);
        Desk.due("the older one stays", query(desk, 0), packet(1, "4.3.2.1.a"));
        desk.sieve.tick(5);
        Desk.due("a query that is over", desk.answer(reply(packet(1, "4.3.2.1.a"), 128, 0, 0, "")), 0);
    }

    private static void thirdBytes() {
        Desk.of("its third byte 128 or more and (divided by 8, its remainder by 16) 0");
        for (int third = 0; third < 256; third++) {
            taken("third byte " + third, third >= 128 && third / 8 % 16 == 0, reply(first(), third, 0, 0, ""));
        }
    }

    private static void questionCounts() {
        Desk.of("the fifth and sixth 0, 1");
        String good = good();
        taken("0, 1", true, good.substring(0, 4) + "\0\u0001" + good.substring(6));
        taken("0, 0", false, good.substring(0, 4) + "\0\0" + good.substring(6));
        taken("0, 2", false, good.substring(0, 4) + "\0\u0002" + good.substring(6));
        taken("1, 1", false, good.substring(0, 4) + "\u0001\u0001" + good.substring(6));
        taken("1, 0", false, good.substring(0, 4) + "\u0001\0" + good.substring(6));
        taken("128, 1", false, good.substring(0, 4) + "\u0080\u0001" + good.substring(6));
        taken("other counts are any", true, good.substring(0, 8) + "\u00ff\u00ff\u00ff\u00ff" + good.substring(12));
    }

    private static void questions() {
        Desk.of("behind the first 12 the query's question (labels SMALL, all up to the query's end)");
        String good = good();
        int end = first().length();
        for (int i = 12; i < end; i++) {
            char c = good.charAt(i);
            taken("another byte " + i, false, good.substring(0, i) + (char) (c ^ 1) + good.substring(i + 1));
            taken("byte " + i + " with the highest bit", false, good.substring(0, i) + (char) (c ^ 128) + good.substring(i + 1));
            boolean letter = c >= 'a' && c <= 'z';
            taken("byte " + i + " great", letter, good.substring(0, i) + (char) (c ^ 32) + good.substring(i + 1));
        }
        taken("all great", true, good.replace("xy", "XY").replace("\u0001z", "\u0001Z"));
        taken("without the question", false, good.substring(0, 12) + good.substring(end));
        taken("another name", false, reply(packet(1, "1.0.0.10.xy.zz"), 128, 0, 0, ""));
        taken("a shorter name", false, reply(packet(1, "1.0.0.10.xy"), 128, 0, 0, ""));
    }

    private static void answerCounts() {
        Desk.of("and, when the CODE is 0, as many answers as the seventh and eighth byte tell, at most 10");
        String one = record(A, NINE, "\u007f\0\0\u0002");
        for (int n : new int[] {0, 1, 2, 9, 10, 11, 12, 255, 256, 257, 266}) {
            taken(n + " answers", n <= 10, reply(first(), 128, 0, n, one.repeat(Math.min(n, 100))));
            taken(n + " answers told, one too few there", false, reply(first(), 128, 0, n == 0 ? 1 : n, one.repeat(Math.max(0, Math.min(n,
                100) - 1))));
            taken("of another code " + n + " answers told, none there", true, reply(first(), 128, 3, n, ""));
            taken("of code 5 " + n + " answers told, none there", true, reply(first(), 128, 5, n, ""));
        }
        taken("fewer told than are there", true, reply(first(), 128, 0, 1, one.repeat(3)));
    }

    private static void answersWithin() {
        Desk.of("all within it: two bytes type, two class, four a time to live, two a length, and so many bytes");
        for (int length : new int[] {0, 1, 4, 255, 256, 300}) {
            String all = reply(first(), 128, 0, 1, record(A, NINE, "d".repeat(length)));
            taken("data of " + length, true, all);
            taken("one byte less of " + length, false, all.substring(0, all.length() - 1));
        }
        String two = record(A, NINE, "\u007f\0\0\u0002") + record(A, NINE, "");
        for (int cut = 0; cut <= two.length(); cut++) {
            taken("two answers less " + cut, cut == 0, reply(first(), 128, 0, 2, two.substring(0, two.length() - cut)));
        }
        taken("a length of 65,535", false, reply(first(), 128, 0, 1, A + NINE + "\u00ff\u00ff" + "d".repeat(300)));
    }

    private static void recordNames() {
        Desk.of("a name (labels of 1 to 63 bytes, and 0; or at their beginning or behind some of them two bytes, the first 192 or more, which end it)");
        String rest = record(A, NINE, "\u007f\0\0\u0002").substring(2);
        String[] right = {"\0", "\u0001a\0", "\u003f" + "a".repeat(63) + "\0", "\u00c0\0", "\u00c0\u000c", "\u00ff\u00ff", "\u0001a\u00c0\u000c",
            "\u0001a\u003f" + "b".repeat(63) + "\u00ff\0", ("\u0001a").repeat(200) + "\0", "\u00c1\u00c0"};
        for (String name : right) {
            taken("the name " + name, true, reply(first(), 128, 0, 1, name + rest));
        }
        for (int length = 64; length < 256; length++) {
            taken("two bytes, the first of them " + length, length >= 192, reply(first(), 128, 0, 1, (char) length + "\u000c" + rest));
            taken("two bytes behind a label, the first of them " + length, length >= 192, reply(first(), 128, 0, 1, "\u0001a" + (char) length
                + "\u000c" + rest));
        }
        for (int length : new int[] {64, 65, 127, 128, 190, 191}) {
            taken("a label of " + length, false, reply(first(), 128, 0, 1, (char) length + "a".repeat(length) + "\0" + rest));
            taken("a label of " + length + " behind another", false, reply(first(), 128, 0, 1, "\u0001a" + (char) length + "a".repeat(length) + "\0"
                + rest));
        }
        for (String none : new String[] {"", "\u0001", "\u0001a", "\u0003ab", "\u00c0", "\u0001a\u00c0", "\u003f" + "a".repeat(62)}) {
            taken("not whole: " + none, false, reply(first(), 128, 0, 1, none));
        }
    }

    private static void behindTheAnswers() {
        Desk.of("What is behind is not looked at");
        taken("bytes behind", true, good() + "\u0040");
        taken("many bytes behind", true, good() + "x".repeat(500));
        taken("half a record behind", true, good() + A);
    }

    /** What is told of an answer that is taken: its values, and whether 10.0.0.1 is listed with these bits. */
    private static void listed(String what, int values, int bits, String packet) {
        for (int mask : new int[] {bits == 0 ? 255 : bits & -bits, bits == 255 ? 255 : 255 - bits}) {
            Desk desk = Desk.with("zone xy.z", "listed A 0 " + mask);
            desk.meet(0, "10.0.0.1");
            Desk.due("taken: " + what, desk.answer(packet), 1);
            Desk.due("values: " + what, desk.sieve.state(10), values);
            desk.give(0, Desk.message(""));
            Desk.due("listed by " + mask + ": " + what, desk.held(0), (bits & mask) != 0 ? "0" : "");
        }
    }

    private static void codes() {
        Desk.of("CODE 3: the value 0 for 60 seconds; others: no value");
        String records = record(A, NINE, "\u007f\0\0\u0002");
        for (int fourth = 0; fourth < 256; fourth += fourth < 32 ? 1 : 13) {
            int code = fourth % 16;
            listed("fourth byte " + fourth, code == 0 || code == 3 ? 1 : 0, code == 0 ? 2 : 0, reply(first(), 128, fourth, 1, records));
        }
        for (int late = -1; late <= 1; late++) {
            Desk desk = zones("a");
            desk.meet(0, "1.2.3.4");
            desk.answer(reply(query(desk, 0), 128, 3, 1, record(A, life(7), "\u007f\0\0\u0002")));
            desk.sieve.tick(60 + late);
            desk.meet(0, "1.2.3.4");
            Desk.due("asked again behind 60 and " + late, desk.sieve.state(9), late < 0 ? 0 : 1);
        }
        Desk desk = zones("a");
        desk.meet(0, "1.2.3.4");
        desk.answer(reply(query(desk, 0), 128, 2, 0, ""));
        desk.meet(0, "1.2.3.4");
        Desk.due("without a value it is asked again at once", desk.sieve.state(9), 1);
    }

    private static void bits() {
        Desk.of("CODE 0: the bits of all fourth bytes of answers of type 1, class 1, length 4 that begin with 127, 0, 0");
        for (int bit = 1; bit < 256; bit *= 2) {
            listed("127.0.0." + bit, 1, bit, reply(first(), 128, 0, 1, record(A, NINE, "\u007f\0\0" + (char) bit)));
        }
        listed("127.0.0.255", 1, 255, reply(first(), 128, 0, 1, record(A, NINE, "\u007f\0\0\u00ff")));
        listed("127.0.0.0", 1, 0, reply(first(), 128, 0, 1, record(A, NINE, "\u007f\0\0\0")));
        listed("several", 1, 7, reply(first(), 128, 0, 3, record(A, NINE, "\u007f\0\0\u0001") + record(A, NINE, "\u007f\0\0\u0002") + record(A, NINE,
            "\u007f\0\0\u0006")));
        String[] none = {"\u007e\0\0\u0002", "\u0080\0\0\u0002", "\u007f\u0001\0\u0002", "\u007f\0\u0001\u0002", "\u00ff\0\0\u0002",
            "\u007f\u00ff\0\u0002", "\u007f\0\u00ff\u0002", "", "\u0002", "\u007f\0\0", "\u007f\0\0\u0002\0", "\0\0\u007f\u0002"};
        for (String data : none) {
            listed("data that do not count", 1, 4, reply(first(), 128, 0, 2, record(A, NINE, data) + record(A, NINE, "\u007f\0\0\u0004")));
        }
        String[] types = {"\0\0\0\0\u0001", "\0\0\u0002\0\u0001", "\0\u0001\u0001\0\u0001", "\0\0\u0001\0\0", "\0\0\u0001\0\u0002",
            "\0\0\u0001\u0001\u0001", "\0\u0001\0\u0001\0", "\0\0\u0010\0\u0001"};
        for (String start : types) {
            listed("a type or class that does not count", 1, 4, reply(first(), 128, 0, 2, record(start, NINE, "\u007f\0\0\u0002") + record(A, NINE,
                "\u007f\0\0\u0004")));
        }
        listed("ten answers", 1, 128, reply(first(), 128, 0, 10, record(A, NINE, "").repeat(9) + record(A, NINE, "\u007f\0\0\u0080")));
    }

    /** For how many seconds the value of an answer with these records is good. */
    private static void good(String what, int seconds, int answers, String records) {
        for (int late = -1; late <= 1; late++) {
            if (seconds + late < 0) {
                continue;
            }
            Desk desk = zones("a");
            desk.sieve.tick(50);
            desk.meet(0, "1.2.3.4");
            desk.answer(reply(query(desk, 0), 128, 0, answers, records));
            tick(desk, seconds + late);
            Desk.due("it stays in the cache: " + what, desk.sieve.state(10), 1);
            desk.give(0, Desk.message(""));
            desk.sieve.clear(0);
            desk.meet(1, "1.2.3.4");
            Desk.due(what + ", asked again behind " + seconds + " and " + late, desk.sieve.state(9), late < 0 ? 0 : 1);
        }
    }

    private static void lives() {
        Desk.of("for the least time to live of answers of type 1, class 1 (at most 86,400; 60 without any)");
        String two = "\u007f\0\0\u0002";
        for (long seconds : new long[] {0, 1, 59, 60, 61, 255, 256, 65535, 65536, 86399, 86400}) {
            good("a life of " + seconds, (int) seconds, 1, record(A, life(seconds), two));
        }
        for (long seconds : new long[] {86401, 100000, 0x7fffffffL, 0x80000000L, 0xffffffffL}) {
            good("a life of " + seconds, 86400, 1, record(A, life(seconds), two));
        }
        good("the least, first", 7, 3, record(A, life(7), two) + record(A, life(100), two) + record(A, life(0x80000000L), two));
        good("the least, last", 7, 3, record(A, life(0xffffffffL), two) + record(A, life(100), two) + record(A, life(7), two));
        good("the least of one whose data do not count", 7, 2, record(A, life(100), two) + record(A, life(7), ""));
        good("not that of another type", 100, 2, record(A, life(100), two) + record("\0\0\u0002\0\u0001", life(7), two));
        good("not that of another class", 100, 2, record("\0\0\u0001\0\u0002", life(7), two) + record(A, life(100), two));
        good("without any answer", 60, 0, "");
        good("without any of type 1", 60, 1, record("\0\0\u0005\0\u0001", life(7), two));
        good("without any of class 1", 60, 1, record("\0\0\u0001\0\u0003", life(700), two));
        good("0 is the least", 0, 2, record(A, life(100), two) + record(A, life(0), two));
        good("0 is the least, first", 0, 2, record(A, life(0), two) + record(A, life(100), two));
    }

    // ---- the cache

    private static void put(Desk desk, int host, int seconds, int bits) {
        desk.meet(0, "10.0.0." + host);
        Desk.due("a query for " + host, desk.sieve.state(9), 1);
        desk.answer(reply(query(desk, 0), 128, 0, 1, record(A, life(seconds), "\u007f\0\0" + (char) bits)));
    }

    private static boolean isThere(Desk desk, int host) {
        desk.meet(3, "10.0.0." + host);
        boolean there = desk.sieve.state(9) == 0;
        desk.sieve.tick(5);
        return there;
    }

    private static void theCacheInARow() {
        Desk.of("The CACHE has values by address and zone; a new one takes the place of that of the same");
        Desk desk = zones("a", "b");
        desk.meet(0, "10.0.0.1");
        desk.answer(reply(query(desk, 0), 128, 0, 1, record(A, NINE, "\u007f\0\0\u0001")));
        desk.answer(reply(query(desk, 0), 128, 0, 1, record(A, NINE, "\u007f\0\0\u0001")));
        Desk.due("one for each zone", desk.sieve.state(10), 2);
        desk.meet(0, "10.0.0.2");
        desk.answer(reply(query(desk, 0), 128, 3, 0, ""));
        desk.answer(reply(query(desk, 0), 128, 2, 0, ""));
        Desk.due("one for each address", desk.sieve.state(10), 3);
        desk.sieve.tick(9);
        desk.meet(0, "10.0.0.1");
        desk.answer(reply(query(desk, 0), 128, 3, 0, ""));
        Desk.due("the same place", desk.sieve.state(10), 3);
        desk.give(0, Desk.message(""));
        desk.sieve.tick(5);
        Desk.due("the new value counts, the other is good no more", desk.held(0), "");
        // a zone of the same name in another place of another rule set
        desk = zones("a");
        put(desk, 1, 50, 1);
        desk.line("clear");
        desk.line("zone b");
        desk.line("zone a");
        desk.line("listed B 0 255");
        desk.line("listed A 1 255");
        desk.sieve.load();
        desk.meet(0, "10.0.0.1");
        Desk.due("only the new zone is asked", query(desk, 0), packet(2, "1.0.0.10.b"));
        desk.answer(reply(query(desk, 0), 128, 3, 0, ""));
        desk.give(0, Desk.message(""));
        Desk.due("by the zone's name", desk.held(0), "1");
    }

    private static void theCacheOfSixteen() {
        Desk.of("at most 16 values in a row; or comes at the end (of 16 the one with the least end, of these the first, goes ahead)");
        int[][] least = {{0}, {1}, {15}, {7}, {3, 9}, {0, 15}, {9, 10}, {1, 2}};
        for (int[] old : least) {
            Desk desk = zones("a");
            for (int i = 0; i < 16; i++) {
                boolean soon = false;
                for (int k : old) {
                    soon = soon || k == i;
                }
                put(desk, i, soon ? 500 : 1000 - i, 1);
                Desk.due("values at " + i, desk.sieve.state(10), i + 1);
            }
            put(desk, 100, 1, 1);
            Desk.due("still 16", desk.sieve.state(10), 16);
            Desk.due("the first of the soonest went", isThere(desk, old[0]), false);
            Desk.due("the one behind it stayed", isThere(desk, (old[0] + 1) % 16), true);
            Desk.due("the one ahead of it stayed", isThere(desk, (old[0] + 15) % 16), true);
            put(desk, 101, 2000, 1);
            Desk.due("16 again", desk.sieve.state(10), 16);
            Desk.due("the one that was soonest now went", isThere(desk, 100), false);
            Desk.due("the other one stayed", isThere(desk, old[old.length - 1]), old.length > 1);
            Desk.due("the new one is there", isThere(desk, 101), true);
        }
        // those behind the one that goes keep their bits
        Desk shifted = Desk.with("zone a", "listed A 0 1", "listed B 0 2", "listed C 0 4");
        for (int i = 0; i < 17; i++) {
            put(shifted, i, i == 4 ? 500 : 1000, 1 << i % 3);
        }
        for (int i = 0; i < 17; i++) {
            if (i != 4) {
                shifted.meet(0, "10.0.0." + i);
                shifted.give(0, Desk.message(""));
                Desk.due("the bits of " + i, shifted.held(0), "" + i % 3);
            }
        }
        // a name of another length was looked up since
        Desk other = zones("a");
        put(other, 1, 1, 1);
        other.sieve.tick(1);
        other.meet(0, "10.0.0.1");
        other.meet(1, "100.100.100.100");
        other.answer(reply(query(other, 0), 128, 3, 0, ""));
        Desk.due("the same place", other.sieve.state(10), 1);
        // of 16 a value of the same address and zone needs no room
        Desk desk = zones("a");
        for (int i = 0; i < 16; i++) {
            put(desk, i, i == 5 ? 3 : 1000, 1);
        }
        desk.sieve.tick(3);
        put(desk, 5, 1000, 1);
        Desk.due("16", desk.sieve.state(10), 16);
        for (int i = 0; i < 16; i++) {
            Desk.due("all are there: " + i, isThere(desk, i), true);
        }
    }

    /** Each session that goes on judges its own message. */
    private static void whatGoesOn() {
        Desk.of("then the rules are gone through, of the message that waited");
        Desk desk = zones("a");
        String[] words = {"first words", "second words here", "third"};
        for (int s = 0; s < 3; s++) {
            desk.meet(s, "10.0.0.1");
            desk.give(s, Desk.message(words[s], "Subject", "s" + s));
        }
        desk.meet(3, "");
        desk.give(3, Desk.message("another, judged at once"));
        desk.sieve.tick(5);
        for (int s = 0; s < 3; s++) {
            Desk.due("the text of " + s, desk.text(s), words[s] + "\n");
        }
        Desk.due("the other one", desk.text(3), "another, judged at once\n");
    }

    private static void whoGoesOn() {
        Desk.of("while a query is open the session WAITS; sessions that waited go on, 0 first");
        Desk desk = zones("a", "b");
        for (int s = 0; s < 3; s++) {
            desk.meet(s, s == 2 ? "10.0.0.2" : "10.0.0.1");
            desk.give(s, Desk.message("x"));
            desk.sieve.clear(s);
            Desk.due("waiting " + s, desk.sieve.session(s, 0), 8);
        }
        Desk.due("an answer that is not taken", desk.answer("x"), 0);
        Desk.due("nobody goes on", desk.sieve.session(0, 0), 8);
        Desk.due("the first zone is answered", desk.answer(reply(query(desk, 0), 128, 2, 0, "")), 1);
        Desk.due("nobody goes on yet", desk.sieve.session(0, 0), 8);
        Desk.due("the second zone is answered", desk.answer(reply(query(desk, 0), 128, 0, 1, record(A, NINE, "\u007f\0\0\u0001"))), 1);
        for (int s = 0; s < 2; s++) {
            Desk.due("it goes on: " + s, desk.sieve.session(s, 0), 3);
            Desk.due("listed " + s, desk.held(s), "1");
            Desk.due("its reply " + s, desk.letters(s), "a");
        }
        Desk.due("the one of another address waits", desk.sieve.session(2, 0), 8);
        desk.sieve.tick(5);
        Desk.due("until it is over", desk.sieve.session(2, 0), 3);
        Desk.due("not listed", desk.held(2), "");
    }
}
