/** Promises 10 to 12, and terms 6 and 7: the clock, queries, answers, the cache, the greylist. */
public final class NetTest {
    private static final String A = "\u00c0\u000c\0\u0001\0\u0001";

    public static void main(String[] args) {
        theClock();
        queries();
        atMostTwelve();
        lookingUpOnce();
        answersThatAreNotTaken();
        answersThatAreTaken();
        theValuesLife();
        theCacheHasSixteen();
        waiting();
        waitingForSeveral();
        waitingIsGivenUp();
        waitingWithoutRoom();
        greylist();
        greylistNetworks();
        greylistTriplets();
        greylistHas24();
        Desk.end();
    }

    private static void theClock() {
        MailSieve x = new MailSieve();
        Desk.due("tick 0", x.tick(0), -1);
        Desk.due("tick -1", x.tick(-1), -1);
        Desk.due("tick 86401", x.tick(86401), -1);
        Desk.due("tick", x.tick(86400), 86400);
        Desk.due("tick 1", x.tick(1), 86401);
        Desk.due("the clock", x.state(0), 86401);
        Desk.due("a great tick", x.tick(Integer.MAX_VALUE), -1);
        for (int i = 0; i < 1156; i++) {
            x.tick(86400);
        }
        int now = x.state(0);
        Desk.due("up to the bound", x.tick(100000000 - now), 100000000);
        Desk.due("above the bound", x.tick(1), -1);
    }

    private static Desk zones(String... zones) {
        Desk desk = new Desk();
        for (String zone : zones) {
            desk.line("zone " + zone);
        }
        for (int i = 0; i < zones.length; i++) {
            desk.line("listed Z" + i + " " + i + " 6");
        }
        desk.sieve.load();
        return desk;
    }

    private static String query(Desk desk, int k) {
        StringBuilder all = new StringBuilder();
        for (int i = 0; desk.sieve.query(k, i) >= 0; i++) {
            all.append((char) desk.sieve.query(k, i));
        }
        return all.toString();
    }

    private static String question(String address, String zone) {
        StringBuilder all = new StringBuilder();
        String[] n = address.split("\\.");
        for (String label : (n[3] + "." + n[2] + "." + n[1] + "." + n[0] + "." + zone).split("\\.")) {
            all.append((char) label.length()).append(label);
        }
        return all + "\0\0\u0001\0\u0001";
    }

    private static void queries() {
        Desk desk = zones("bl.example", "x");
        desk.meet(0, "1.20.255.0");
        Desk.due("open queries", desk.sieve.state(9), 2);
        Desk.due("query 0", query(desk, 0), "\0\u0001\u0001\0\0\u0001\0\0\0\0\0\0" + question("1.20.255.0", "bl.example"));
        Desk.due("query 1", query(desk, 1), "\0\u0002\u0001\0\0\u0001\0\0\0\0\0\0" + question("1.20.255.0", "x"));
        Desk.due("no query 2", desk.sieve.query(2, 0), -1);
        Desk.due("no query -1", desk.sieve.query(-1, 0), -1);
        Desk.due("no byte -1", desk.sieve.query(0, -1), -1);
        Desk.due("not yet over", desk.sieve.tick(4), 4);
        Desk.due("still open", desk.sieve.state(9), 2);
        desk.meet(1, "1.2.3.4");
        Desk.due("two more", desk.sieve.state(9), 4);
        desk.sieve.tick(1);
        Desk.due("two are over", desk.sieve.state(9), 2);
        Desk.due("the oldest is now", query(desk, 0), "\0\u0003\u0001\0\0\u0001\0\0\0\0\0\0" + question("1.2.3.4", "bl.example"));
        for (String address : new String[] {"9.10.99.100", "0.1.19.20", "101.109.110.199", "200.249.250.255"}) {
            Desk numbers = zones("z");
            numbers.meet(0, address);
            Desk.due("the name of " + address, query(numbers, 0).substring(12), question(address, "z"));
        }
        Desk other = zones("z");
        other.meet(0, "");
        Desk.due("none without an address", other.sieve.state(9), 0);
        String longest = "a".repeat(20) + "." + "b".repeat(19);
        other = zones(longest);
        other.meet(0, "255.255.255.255");
        Desk.due("the longest name", query(other, 0).substring(12), question("255.255.255.255", longest));
    }

    private static void atMostTwelve() {
        Desk desk = zones("a", "b", "c");
        for (int i = 0; i < 5; i++) {
            desk.meet(i % 4, "10.0.0." + i);
        }
        Desk.due("twelve", desk.sieve.state(9), 12);
        desk.sieve.tick(5);
        desk.meet(0, "10.0.0.9");
        Desk.due("the next id is the 13th", query(desk, 0).charAt(1), (char) 13);
    }

    private static void lookingUpOnce() {
        Desk desk = zones("a", "a");
        desk.meet(0, "10.0.0.1");
        Desk.due("the same zone twice", desk.sieve.state(9), 1);
        desk.meet(1, "10.0.0.1");
        Desk.due("the same address twice", desk.sieve.state(9), 1);
        desk.answer(reply(query(desk, 0), 0x80, 3, 0, ""));
        desk.meet(2, "10.0.0.1");
        Desk.due("a value is there", desk.sieve.state(9), 0);
        desk.sieve.tick(59);
        desk.meet(2, "10.0.0.1");
        Desk.due("still good", desk.sieve.state(9), 0);
        desk.sieve.tick(1);
        desk.meet(2, "10.0.0.1");
        Desk.due("good no more", desk.sieve.state(9), 1);
    }

    /** An answer to a query packet. */
    private static String reply(String query, int third, int fourth, int answers, String records) {
        return query.substring(0, 2) + (char) third + (char) fourth + "\0\u0001\0" + (char) answers + "\0\0\0\0" + query.substring(12) + records;
    }

    private static String record(String start, String life, String data) {
        return start + life + "\0" + (char) data.length() + data;
    }

    private static void answersThatAreNotTaken() {
        Desk desk = zones("a");
        desk.meet(0, "10.0.0.1");
        String q = query(desk, 0);
        String good = record(A, "\0\0\0\u0009", "\u007f\0\0\u0002");
        String right = reply(q, 0x80, 0, 1, good);
        String[] wrong = {"", right.substring(0, 11), right.substring(0, 20), right.substring(0, right.length() - 1), "\0\u0002" + right.substring(2), reply(q, 0x7f, 0, 1, good),
            reply(q, 0x88, 0, 1, good), reply(q, 0xF8, 0, 1, good), right.substring(0, 5) + "\u0002" + right.substring(6), right.substring(0, 4) + "\u0001" + right.substring(5),
            reply(q, 0x80, 0, 2, good), reply(q, 0x80, 0, 11, good.repeat(11)), right.replace("\u000210", "\u000211"), reply(q, 0x80, 0, 1, "\u0040" + "x".repeat(64) + good), reply(q, 0x80, 0, 1, "\u00bf" + "x".repeat(191) + good), reply(q, 0x80, 0, 1, "\u00c0"),
            reply(q, 0x80, 0, 1, "\u0003ab"), reply(q, 0x80, 0, 1, "")};
        for (int i = 0; i < wrong.length; i++) {
            Desk.due("answer " + i, desk.answer(wrong[i]), 0);
        }
        Desk.due("still open", desk.sieve.state(9), 1);
        Desk.due("no values", desk.sieve.state(10), 0);
        Desk.due("below 0", desk.sieve.answer(-1), -1);
        Desk.due("more than there are", desk.sieve.answer(1), -1);
        Desk.due("the right one", desk.answer(right), 1);
        Desk.due("it is over", desk.answer(right), 0);
    }

    /** Whether a message of 10.0.0.1 is listed (with the bits 2 and 4) when its query was answered so. */
    private static void listed(String what, boolean want, int values, int third, int fourth, int answers, String records) {
        Desk desk = zones("a.b");
        desk.meet(0, "10.0.0.1");
        String q = query(desk, 0);
        Desk.due("taken: " + what, desk.answer(reply(q, third, fourth, answers, records)), 1);
        Desk.due("values: " + what, desk.sieve.state(10), values);
        Desk.due("no query: " + what, desk.sieve.state(9), 0);
        desk.give(0, Desk.message(""));
        Desk.due("listed: " + what, desk.held(0), want ? "0" : "");
    }

    private static void answersThatAreTaken() {
        String life = "\0\0\0\u0009";
        String two = record(A, life, "\u007f\0\0\u0002");
        listed("127.0.0.2", true, 1, 0x80, 0, 1, two);
        listed("127.0.0.8", false, 1, 0x87, 0xF0, 1, record(A, life, "\u007f\0\0\u0008"));
        listed("8 and 4", true, 1, 0x80, 0, 2, record(A, life, "\u007f\0\0\u0008") + record(A, life, "\u007f\0\0\u0004"));
        listed("127.0.1.2", false, 1, 0x80, 0, 1, record(A, life, "\u007f\0\u0001\u0002"));
        listed("five bytes", false, 1, 0x80, 0, 1, record(A, life, "\u007f\0\0\u0002\0"));
        listed("another type", false, 1, 0x80, 0, 1, record("\0\0\u0010\0\u0001", life, "\u007f\0\0\u0002"));
        listed("another class", false, 1, 0x80, 0, 1, record("\0\0\u0001\0\u0003", life, "\u007f\0\0\u0002"));
        listed("no answers", false, 1, 0x80, 0, 0, "");
        listed("ten answers", true, 1, 0x80, 0, 10, two.repeat(10));
        listed("bytes behind", true, 1, 0x80, 0, 1, two + "\u0040");
        listed("a long name", true, 1, 0x80, 0, 1, "\u003f" + "x".repeat(63) + "\u0001y\0" + two.substring(2));
        listed("labels and two bytes", true, 1, 0x80, 0, 1, "\u0001y\u00ff\u00ff" + two.substring(2));
        listed("127.0.0.255", true, 1, 0x80, 0, 1, record(A, life, "\u007f\0\0\u00ff"));
        listed("127.0.0.249", false, 1, 0x80, 0, 1, record(A, life, "\u007f\0\0\u00f9"));
        listed("code 3", false, 1, 0x80, 3, 1, two);
        listed("code 2", false, 0, 0x80, 2, 11, "");
        listed("code 3 with too many answers", false, 1, 0x80, 0x83, 11, "");
        Desk desk = zones("a.b");
        desk.meet(0, "10.0.0.1");
        String right = reply(query(desk, 0), 0x80, 0, 1, two);
        Desk bit = new Desk();
        bit.line("zone a.b");
        bit.line("listed A 0 1");
        bit.line("listed B 0 128");
        bit.sieve.load();
        bit.meet(0, "10.0.0.1");
        bit.answer(reply(query(bit, 0), 0x80, 0, 2, record(A, life, "\u007f\0\0\u0001") + record(A, life, "\u007f\0\0\u0080")));
        bit.give(0, Desk.message(""));
        Desk.due("the first and the last bit", bit.held(0), "0 1");
        Desk.due("great letters", desk.answer(right.replace("\u0001a\u0001b", "\u0001A\u0001B")), 1);
    }

    private static void theValuesLife() {
        // a life in seconds, and for how long the value is good
        String[] lives = {"\0\0\0\u0009", "\0\0\0\0", "\0\u0001\u0051\u0080", "\0\u0001\u0051\u0081", "\u00ff\u00ff\u00ff\u00ff"};
        int[] good = {9, 0, 86400, 86400, 86400};
        for (int i = 0; i < lives.length; i++) {
            for (int late = 0; late < 2; late++) {
                Desk desk = zones("a");
                desk.meet(0, "10.0.0.1");
                desk.answer(reply(query(desk, 0), 0x80, 0, 2, record(A, "\u00ff\0\0\0", "\u007f\0\0\u0002") + record(A, lives[i], "")));
                if (good[i] - 1 + late > 0) {
                    desk.sieve.tick(good[i] - 1 + late);
                }
                desk.give(0, Desk.message(""));
                Desk.due("good " + i + " " + late, desk.held(0), late == 0 && good[i] > 0 ? "0" : "");
                Desk.due("it stays in the cache", desk.sieve.state(10), 1);
            }
        }
    }

    private static void theCacheHasSixteen() {
        Desk desk = zones("a");
        for (int i = 0; i < 17; i++) {
            desk.meet(0, "10.0.0." + i);
            // value 3 has the least end, and so has value 5
            int life = i == 3 || i == 5 ? 10 : 100 + i;
            desk.answer(reply(query(desk, 0), 0x80, 0, 1, record(A, "\0\0\0" + (char) life, "\u007f\0\0\u0002")));
            Desk.due("values " + i, desk.sieve.state(10), Math.min(16, i + 1));
        }
        desk.meet(0, "10.0.0.5");
        Desk.due("5 is there", desk.sieve.state(9), 0);
        desk.meet(0, "10.0.0.3");
        Desk.due("3 went", desk.sieve.state(9), 1);
        desk.sieve.tick(10);
        desk.meet(0, "10.0.0.5");
        desk.answer(reply(query(desk, 0), 0x80, 0, 1, record(A, "\0\0\0\u0032", "\u007f\0\0\u0004")));
        Desk.due("a new value takes the old one's place", desk.sieve.state(10), 16);
    }

    private static void waiting() {
        Desk desk = zones("a");
        desk.line("clear");
        desk.meet(0, "10.0.0.1");
        desk.meet(1, "10.0.0.1");
        String message = Desk.message("some words");
        desk.give(0, message);
        desk.give(1, message);
        Desk.due("waiting", desk.sieve.session(0, 0), 8);
        Desk.due("no last reply yet", desk.letters(0), "cccc".substring(0, 4));
        Desk.due("not judged", desk.sieve.session(0, 11), 0);
        Desk.due("no indicator", desk.sieve.indicator(0), -1.0);
        Desk.due("its message is there", desk.sieve.session(0, 6), 10);
        desk.sieve.tick(4);
        Desk.due("still waiting", desk.sieve.session(0, 0), 8);
        Desk.due("answer", desk.answer(reply(query(desk, 0), 0x80, 0, 1, record(A, "\0\0\0\u0009", "\u007f\0\0\u0002"))), 1);
        for (int s = 0; s < 2; s++) {
            Desk.due("MET " + s, desk.sieve.session(s, 0), 3);
            Desk.due("judged " + s, desk.text(s), "some words\n");
            Desk.due("listed " + s, desk.held(s), "0");
        }
        Desk.due("the last reply", desk.letters(0), "a");
        desk = zones("a");
        desk.meet(0, "10.0.0.1");
        desk.give(0, message);
        desk.sieve.load();
        desk.sieve.tick(5);
        Desk.due("over by the clock", desk.sieve.session(0, 0), 3);
        Desk.due("judged without a value", desk.held(0), "");
        Desk.due("replies", desk.letters(0), "cccca");
    }

    private static void waitingForSeveral() {
        Desk desk = zones("a", "b");
        desk.meet(0, "10.0.0.1");
        desk.give(0, Desk.message("x"));
        desk.answer(reply(query(desk, 0), 0x80, 2, 0, ""));
        Desk.due("one is open yet", desk.sieve.session(0, 0), 8);
        desk.answer(reply(query(desk, 0), 0x80, 0, 1, record(A, "\0\0\0\u0009", "\u007f\0\0\u0004")));
        Desk.due("now it goes on", desk.sieve.session(0, 0), 3);
        Desk.due("listed in the second", desk.held(0), "1");
        // the zones are those of the message's rule set, not those that C looked up
        desk = zones("a");
        desk.meet(0, "10.0.0.1");
        desk.line("clear");
        desk.line("zone b");
        desk.sieve.load();
        desk.give(0, Desk.message("x"));
        Desk.due("another zone's query", desk.sieve.session(0, 0), 3);
        // the indicator is that of the E
        desk = zones("a");
        desk.meet(0, "10.0.0.1");
        desk.meet(1, "");
        desk.give(0, Desk.message("word words"));
        desk.give(1, Desk.message("word words"));
        desk.sieve.learn(1, true);
        desk.give(1, Desk.message("other"));
        desk.sieve.learn(1, false);
        desk.sieve.tick(5);
        Desk.due("the indicator of the E", desk.sieve.indicator(0), 0.5);
    }

    private static void waitingIsGivenUp() {
        String[] ends = {"A", "K", "Q", "U", "D", "M"};
        int[] states = {3, 2, 0, 0, 0, 0};
        for (int i = 0; i < ends.length; i++) {
            Desk desk = zones("a");
            desk.meet(0, "10.0.0.1");
            desk.give(0, Desk.message("x"));
            desk.give(0, Desk.packet(ends[i].charAt(0), "x"));
            Desk.due(ends[i] + " while waiting", desk.sieve.session(0, 0), states[i]);
            desk.sieve.tick(5);
            Desk.due("nothing goes on behind " + ends[i], desk.letters(0), "cccc".substring(0, 4));
            Desk.due("nothing was judged", desk.sieve.indicator(0), -1.0);
        }
    }

    private static void waitingWithoutRoom() {
        Desk desk = zones("a");
        desk.meet(0, "10.0.0.1");
        desk.give(0, Desk.packet('U', "").repeat(1635));
        desk.give(0, Desk.message("x").substring(0, 0) + Desk.packet('M', "a\0"));
        Desk.due("8,180 bytes", desk.sieve.session(0, 2), 8180);
        desk.give(0, Desk.packet('R', "a\0") + Desk.packet('N', ""));
        Desk.due("8,190 bytes", desk.sieve.session(0, 2), 8190);
        desk.give(0, Desk.packet('E', "words"));
        Desk.due("waiting", desk.sieve.session(0, 0), 8);
        desk.sieve.tick(5);
        Desk.due("closed", desk.sieve.session(0, 0), 0);
        Desk.due("judged all the same", desk.text(0), "words\n");
    }

    // ---- the greylist

    private static Desk grey(int delay) {
        Desk desk = new Desk();
        desk.line("grey " + delay);
        desk.sieve.load();
        return desk;
    }

    /** The reply to a recipient of a new message. */
    private static String ask(Desk desk, String sender, String recipient) {
        desk.give(0, Desk.packet('A', "") + Desk.packet('M', sender + "\0"));
        desk.sieve.clear(0);
        desk.give(0, Desk.packet('R', recipient + "\0"));
        return desk.letters(0);
    }

    private static void greylist() {
        Desk desk = grey(60);
        desk.meet(0, "10.0.0.1");
        Desk.due("at first", ask(desk, "a", "b"), "t");
        Desk.due("the state stays", desk.sieve.session(0, 0), 4);
        Desk.due("no recipient", desk.sieve.session(0, 4), 0);
        Desk.due("a triplet", desk.sieve.state(11), 1);
        desk.sieve.tick(59);
        Desk.due("too early", ask(desk, "a", "b"), "t");
        desk.sieve.tick(1);
        Desk.due("in time", ask(desk, "a", "b"), "c");
        Desk.due("a recipient", desk.sieve.session(0, 4), 1);
        desk.sieve.tick(86400);
        Desk.due("passed for a day", ask(desk, "a", "b"), "c");
        desk.sieve.tick(86400);
        desk.sieve.tick(1);
        Desk.due("longer than a day", ask(desk, "a", "b"), "t");
        Desk.due("it went and came", desk.sieve.state(11), 1);
        desk = grey(60);
        desk.meet(0, "10.0.0.1");
        ask(desk, "a", "b");
        desk.sieve.tick(14400);
        Desk.due("at the window's end", ask(desk, "a", "b"), "c");
        desk = grey(60);
        desk.meet(0, "10.0.0.1");
        ask(desk, "a", "b");
        desk.sieve.tick(14401);
        Desk.due("behind the window", ask(desk, "a", "b"), "t");
        desk.sieve.tick(59);
        Desk.due("it begins anew", ask(desk, "a", "b"), "t");
        desk.sieve.tick(1);
        Desk.due("and passes", ask(desk, "a", "b"), "c");
        desk = grey(60);
        desk.meet(0, "");
        Desk.due("without an address", ask(desk, "a", "b"), "c");
        desk = grey(0);
        desk.meet(0, "10.0.0.1");
        Desk.due("without grey", ask(desk, "a", "b"), "c");
        Desk.due("no triplet", desk.sieve.state(11), 0);
    }

    private static void greylistNetworks() {
        Desk desk = grey(5);
        desk.meet(0, "10.0.0.1");
        for (int i = 0; i < 3; i++) {
            ask(desk, "a", "r" + i);
        }
        desk.sieve.tick(5);
        Desk.due("one", ask(desk, "a", "r0"), "c");
        Desk.due("two", ask(desk, "a", "r1"), "c");
        Desk.due("a new one yet", ask(desk, "a", "new"), "t");
        Desk.due("three", ask(desk, "a", "r2"), "c");
        Desk.due("the network is known", ask(desk, "x", "y"), "c");
        Desk.due("nothing changes", desk.sieve.state(11), 4);
        desk.meet(0, "10.0.0.200");
        Desk.due("its neighbour, too", ask(desk, "x", "y"), "c");
        desk.meet(0, "10.0.1.1");
        Desk.due("another network", ask(desk, "x", "y"), "t");
    }

    private static void greylistTriplets() {
        Desk desk = grey(5);
        desk.meet(0, "10.0.0.1");
        ask(desk, "<Sender@X>", "<Rcpt@Y>");
        desk.sieve.tick(5);
        desk.meet(0, "10.0.0.77");
        Desk.due("brackets and letters do not count", ask(desk, "sENDER@x", "rCPT@y"), "c");
        Desk.due("one bracket does", ask(desk, "<sender@x", "rcpt@y"), "t");
        Desk.due("a 0 between", ask(desk, "sender@xr", "cpt@y"), "t");
        Desk.due("three triplets", desk.sieve.state(11), 3);
        desk.give(0, Desk.packet('A', ""));
        StringBuilder many = new StringBuilder(Desk.packet('M', "sender@x\0"));
        for (int i = 0; i < 20; i++) {
            many.append(Desk.packet('R', "rcpt@y\0"));
        }
        desk.give(0, many.toString());
        desk.sieve.clear(0);
        desk.give(0, Desk.packet('R', "other\0"));
        Desk.due("t for the 21st", desk.letters(0), "t");
        Desk.due("the greylist is not asked", desk.sieve.state(11), 3);
    }

    private static void greylistHas24() {
        for (int old = 0; old < 24; old += 1) {
            Desk desk = grey(5);
            desk.meet(0, "10.0.0.1");
            for (int i = 0; i < 24; i++) {
                ask(desk, "<>", "r" + i);
            }
            desk.sieve.tick(1);
            for (int i = 0; i < 24; i++) {
                // old and the last one stay as they are: the first of both goes
                if (i != old && i != 23) {
                    ask(desk, "<>", "r" + i);
                }
            }
            ask(desk, "<>", "new");
            desk.sieve.tick(4);
            Desk.due("the first stays unless it is " + old, ask(desk, "", "r" + (old == 0 ? 1 : 0)), "c");
            Desk.due("the last stays unless it is " + old, ask(desk, "", "r" + (old == 23 ? 22 : 23)), "c");
            Desk.due("r" + old + " went", ask(desk, "", "r" + old), "t");
        }
        Desk desk = grey(5);
        desk.meet(0, "10.0.0.1");
        for (int i = 0; i < 24; i++) {
            ask(desk, "a", "r" + i);
            desk.sieve.tick(i == 0 ? 1 : i % 2);
        }
        ask(desk, "a", "r0");
        Desk.due("24", desk.sieve.state(11), 24);
        // r0 was asked latest; of r1 and its like r1 has the least LAST
        ask(desk, "a", "new");
        Desk.due("still 24", desk.sieve.state(11), 24);
        desk.sieve.tick(5);
        Desk.due("r0 stayed", ask(desk, "a", "r0"), "c");
        Desk.due("r2 stayed", ask(desk, "a", "r2"), "c");
        Desk.due("r1 went", ask(desk, "a", "r1"), "t");
    }
}
