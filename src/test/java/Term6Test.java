/** Term 6, sentence by sentence: the greylist at its bounds. */
public final class Term6Test {
    public static void main(String[] args) {
        whenItIsAsked();
        whoseRuleSet();
        triplets();
        oldOnesGo();
        threeOfTheNetwork();
        passedOnesThatWent();
        thoseBehindOneThatGoes();
        delays();
        windows();
        passedOnesHaveNoWindow();
        lastIsNow();
        theRowHas24();
        theFirstOfTheOldest();
        whatStaysOverAll();
        Desk.end();
    }

    private static Desk grey(int delay, String address) {
        Desk desk = Desk.with("grey " + delay);
        desk.meet(0, address);
        return desk;
    }

    /** The reply to a recipient of a new message. */
    private static String ask(Desk desk, String sender, String recipient) {
        desk.give(0, Desk.packet('A', "") + Desk.packet('M', sender + "\0"));
        desk.sieve.clear(0);
        desk.give(0, Desk.packet('R', recipient + "\0"));
        return desk.letters(0);
    }

    private static void ask(String what, Desk desk, String recipient, String want) {
        Desk.due(what, ask(desk, "s", recipient), want);
    }

    private static void tick(Desk desk, int seconds) {
        for (int left = seconds; left > 0; left -= 86400) {
            desk.sieve.tick(Math.min(left, 86400));
        }
    }

    private static void whenItIsAsked() {
        Desk.of("THE GREYLIST is asked by R when grey D of the message's rule set is above 0 and the session has an ADDRESS");
        for (int delay : new int[] {0, 1, 3600}) {
            for (String address : new String[] {"", "10.0.0.1"}) {
                Desk desk = grey(delay, address);
                boolean asked = delay > 0 && !address.isEmpty();
                ask("grey " + delay + " of " + address, desk, "r", asked ? "t" : "c");
                Desk.due("triplets", desk.sieve.state(11), asked ? 1 : 0);
                Desk.due("recipients", desk.sieve.session(0, 4), asked ? 0 : 1);
                Desk.due("the state", desk.sieve.session(0, 0), asked ? 4 : 5);
            }
        }
        Desk desk = Desk.with("grey 5");
        desk.sieve.open(0);
        desk.give(0, Desk.greeting(0) + Desk.packet('C', "h\0006\0\u0019" + "1.2.3.4\0"));
        ask("an address of 6 is none", desk, "r", "c");
        desk = grey(1, "10.0.0.1");
        ask("at first", desk, "r", "t");
        desk.sieve.tick(1);
        ask("then", desk, "r", "c");
        desk.sieve.clear(0);
        desk.give(0, Desk.packet('R', "other\0"));
        Desk.due("t in RCPT", desk.letters(0), "t");
        Desk.due("the state stays RCPT", desk.sieve.session(0, 0), 5);
        Desk.due("recipients stay", desk.sieve.session(0, 4), 1);
    }

    private static void whoseRuleSet() {
        Desk.of("grey D of the message's rule set (the one that was loaded latest when it began)");
        Desk desk = grey(5, "10.0.0.1");
        desk.give(0, Desk.packet('M', "s\0"));
        desk.line("grey 0");
        desk.sieve.load();
        desk.sieve.clear(0);
        desk.give(0, Desk.packet('R', "r\0"));
        Desk.due("by the set of its beginning", desk.letters(0), "t");
        ask("by the latest", desk, "r", "c");
    }

    private static void same(String what, boolean want, String address, String sender, String recipient) {
        Desk desk = grey(1, "10.20.30.40");
        ask(desk, "Send@X", "Rcpt@Y");
        desk.sieve.tick(1);
        desk.meet(0, address);
        Desk.due(what, ask(desk, sender, recipient), want ? "c" : "t");
        Desk.due("triplets: " + what, desk.sieve.state(11), want ? 1 : 2);
    }

    private static void triplets() {
        Desk.of("A TRIPLET is the DIGEST of the address's first three numbers (bytes), the sender's bytes, SMALL, a 0, and the recipient's, SMALL");
        same("the same", true, "10.20.30.40", "Send@X", "Rcpt@Y");
        same("the last number does not count", true, "10.20.30.41", "Send@X", "Rcpt@Y");
        for (int bit = 1; bit < 256; bit *= 2) {
            same("no bit of the last number does", true, "10.20.30." + (40 ^ bit), "Send@X", "Rcpt@Y");
            same("each bit of the third does", false, "10.20." + (30 ^ bit) + ".40", "Send@X", "Rcpt@Y");
            same("each bit of the second does", false, "10." + (20 ^ bit) + ".30.40", "Send@X", "Rcpt@Y");
            same("each bit of the first does", false, (10 ^ bit) + ".20.30.40", "Send@X", "Rcpt@Y");
        }
        same("the third does", false, "10.20.31.40", "Send@X", "Rcpt@Y");
        same("the second does", false, "10.21.30.40", "Send@X", "Rcpt@Y");
        same("the first does", false, "11.20.30.40", "Send@X", "Rcpt@Y");
        same("letters of any size", true, "10.20.30.40", "sEND@x", "RCPT@y");
        same("another sender", false, "10.20.30.40", "Send@Z", "Rcpt@Y");
        same("another recipient", false, "10.20.30.40", "Send@X", "Rcpt@Z");
        same("a 0 between", false, "10.20.30.40", "Send@XR", "cpt@Y");
        for (int b = 1; b < 256; b++) {
            Desk desk = grey(1, "10.0.0.1");
            ask(desk, "a", "b" + (char) b + "c");
            desk.sieve.tick(1);
            Desk.due("no other byte between, as " + b, ask(desk, "a" + (char) b + "b", "c"), "t");
        }
        same("one and the other", false, "10.20.30.40", "Rcpt@Y", "Send@X");
        same("other signs are not made small", false, "10.20.30.40", "Send`X", "Rcpt@Y");
        Desk desk = grey(1, "10.0.0.1");
        ask(desk, "\u00c9[", "");
        desk.sieve.tick(1);
        Desk.due("bytes above 127 stay", ask(desk, "\u00e9[", ""), "t");
        Desk.due("an empty recipient", ask(desk, "\u00c9[", ""), "c");
        Desk.due("[ is not {", ask(desk, "\u00c9{", ""), "t");
    }

    private static void oldOnesGo() {
        Desk.of("First those whose LAST is more than 86,400 ahead of now go");
        for (int more = -1; more <= 1; more++) {
            Desk desk = grey(60, "10.0.0.1");
            ask("at first", desk, "r", "t");
            desk.sieve.tick(60);
            ask("passed", desk, "r", "c");
            tick(desk, 86400 + more);
            ask("behind 86,400 and " + more, desk, "r", more <= 0 ? "c" : "t");
            desk = grey(60, "10.0.0.1");
            ask("one", desk, "one", "t");
            ask("two", desk, "two", "t");
            tick(desk, 86400 + more);
            ask("another", desk, "three", "t");
            Desk.due("triplets behind 86,400 and " + more, desk.sieve.state(11), more <= 0 ? 3 : 1);
        }
        Desk desk = grey(60, "10.0.0.1");
        ask("one", desk, "one", "t");
        tick(desk, 50000);
        ask("two", desk, "two", "t");
        tick(desk, 36401);
        Desk.due("they stay until it is asked", desk.sieve.state(11), 2);
        ask("three", desk, "three", "t");
        Desk.due("the first alone went", desk.sieve.state(11), 2);
        tick(desk, 1);
        desk.meet(0, "");
        ask("not asked", desk, "three", "c");
        tick(desk, 200000);
        Desk.due("without an address nothing goes", desk.sieve.state(11), 2);
    }

    private static void threeOfTheNetwork() {
        Desk.of("c, when three or more of the network have PASSED (nothing changes)");
        for (int passed = 0; passed <= 4; passed++) {
            Desk desk = grey(5, "10.0.0.1");
            for (int i = 0; i < 4; i++) {
                ask("r" + i, desk, "r" + i, "t");
            }
            desk.sieve.tick(5);
            for (int i = 0; i < passed; i++) {
                ask("r" + i + " passes", desk, "r" + i, "c");
            }
            desk.meet(0, "10.0.0.99");
            ask("a new one behind " + passed, desk, "new", passed >= 3 ? "c" : "t");
            Desk.due("triplets behind " + passed, desk.sieve.state(11), passed >= 3 ? 4 : 5);
            desk.meet(0, "10.0.1.1");
            ask("of another network behind " + passed, desk, "new", "t");
            desk.meet(0, "10.1.0.1");
            ask("of one with another second number", desk, "new", "t");
            desk.meet(0, "11.0.0.1");
            ask("of one with another first number", desk, "new", "t");
        }
        // nothing changes: r3 was not passed by it, and its LAST is not now
        Desk desk = grey(5, "10.0.0.1");
        for (int i = 0; i < 4; i++) {
            ask("r" + i, desk, "r" + i, "t");
        }
        desk.sieve.tick(5);
        for (int i = 0; i < 3; i++) {
            ask("r" + i + " passes", desk, "r" + i, "c");
        }
        tick(desk, 80000);
        ask("r3 by its network", desk, "r3", "c");
        tick(desk, 6400);
        desk.meet(0, "10.0.1.1");
        ask("another", desk, "x", "t");
        Desk.due("r3 went, its LAST being of its first time", desk.sieve.state(11), 4);
        // of three networks one each is not three of one
        desk = grey(5, "10.0.0.1");
        for (int i = 0; i < 3; i++) {
            desk.meet(0, "10.0." + i + ".1");
            ask("n" + i, desk, "r", "t");
        }
        desk.sieve.tick(5);
        for (int i = 0; i < 3; i++) {
            desk.meet(0, "10.0." + i + ".1");
            ask("n" + i + " passes", desk, "r", "c");
        }
        ask("a new one", desk, "new", "t");
    }

    private static void passedOnesThatWent() {
        Desk.of("First those go. Then: c, when three or more have PASSED");
        for (int more = 0; more <= 1; more++) {
            Desk desk = grey(5, "10.0.0.1");
            for (int i = 0; i < 3; i++) {
                ask("r" + i, desk, "r" + i, "t");
            }
            desk.sieve.tick(5);
            for (int i = 0; i < 3; i++) {
                ask("r" + i + " passes", desk, "r" + i, "c");
            }
            tick(desk, 86400 + more);
            ask("a new one behind " + more, desk, "new", more == 0 ? "c" : "t");
            Desk.due("triplets", desk.sieve.state(11), more == 0 ? 3 : 1);
            if (more == 1) {
                ask("another one", desk, "new2", "t");
                ask("a third one", desk, "new3", "t");
                ask("a fourth one: none of these has passed", desk, "new4", "t");
                tick(desk, 14401);
                ask("nor was the first", desk, "new", "t");
            }
        }
    }

    private static void thoseBehindOneThatGoes() {
        Desk.of("each with FIRST and LAST times, PASSED or not, and the NETWORK: those behind one that goes keep theirs");
        Desk desk = grey(60, "10.0.0.1");
        ask("one", desk, "one", "t");
        tick(desk, 50000);
        desk.meet(0, "10.0.1.1");
        for (int i = 0; i < 4; i++) {
            ask("r" + i, desk, "r" + i, "t");
        }
        tick(desk, 60);
        for (int i = 0; i < 2; i++) {
            ask("r" + i + " passes", desk, "r" + i, "c");
        }
        tick(desk, 36341);
        desk.meet(0, "10.0.2.1");
        ask("one goes", desk, "x", "t");
        Desk.due("the others stay", desk.sieve.state(11), 5);
        ask("their LAST stays", desk, "y", "t");
        Desk.due("all of them", desk.sieve.state(11), 6);
        desk.meet(0, "10.0.1.1");
        ask("r0 has PASSED", desk, "r0", "c");
        ask("r1 has PASSED", desk, "r1", "c");
        ask("r2 has not, and its FIRST is long ago", desk, "r2", "t");
        tick(desk, 60);
        ask("r2 passes", desk, "r2", "c");
        ask("three of their network", desk, "z", "c");
        Desk.due("nothing came", desk.sieve.state(11), 6);
        desk.meet(0, "10.0.0.1");
        ask("none of the first network", desk, "z", "t");
    }

    private static void delays() {
        Desk.of("when the triplet is there: now less FIRST below D: t");
        for (int delay : new int[] {1, 2, 60, 3600}) {
            for (int more = -1; more <= 1; more++) {
                Desk desk = grey(delay, "10.0.0.1");
                ask("at first", desk, "r", "t");
                tick(desk, delay + more);
                ask("grey " + delay + " behind " + (delay + more), desk, "r", more < 0 ? "t" : "c");
                Desk.due("one triplet", desk.sieve.state(11), 1);
            }
        }
        Desk desk = grey(60, "10.0.0.1");
        ask("at first", desk, "r", "t");
        tick(desk, 30);
        ask("too early", desk, "r", "t");
        tick(desk, 30);
        ask("FIRST did not change", desk, "r", "c");
        desk.line("grey 100");
        desk.sieve.load();
        ask("also of one that has PASSED, by a greater D", desk, "r", "t");
        tick(desk, 40);
        ask("until that is over", desk, "r", "c");
    }

    private static void windows() {
        Desk.of("not PASSED and more than 14,400: t, and FIRST is now");
        for (int more = -1; more <= 1; more++) {
            Desk desk = grey(60, "10.0.0.1");
            ask("at first", desk, "r", "t");
            tick(desk, 14400 + more);
            ask("behind 14,400 and " + more, desk, "r", more <= 0 ? "c" : "t");
            if (more == 1) {
                tick(desk, 59);
                ask("too early again", desk, "r", "t");
                tick(desk, 1);
                ask("in time", desk, "r", "c");
            }
        }
        Desk desk = grey(60, "10.0.0.1");
        ask("at first", desk, "r", "t");
        tick(desk, 14401);
        ask("too late", desk, "r", "t");
        tick(desk, 14401);
        ask("too late again", desk, "r", "t");
        tick(desk, 14400);
        ask("not too late", desk, "r", "c");
    }

    private static void passedOnesHaveNoWindow() {
        Desk.of("else c, and it has PASSED");
        Desk desk = grey(60, "10.0.0.1");
        ask("at first", desk, "r", "t");
        tick(desk, 60);
        ask("passes", desk, "r", "c");
        tick(desk, 14401);
        ask("passed behind 14,400", desk, "r", "c");
        tick(desk, 86400);
        ask("passed behind a day", desk, "r", "c");
        ask("at once again", desk, "r", "c");
    }

    private static void lastIsNow() {
        Desk.of("(in all three LAST is now)");
        int[] ways = {30, 60, 14401};
        String[] replies = {"t", "c", "t"};
        for (int i = 0; i < ways.length; i++) {
            for (int more = 0; more <= 1; more++) {
                Desk desk = grey(60, "10.0.0.1");
                ask("at first", desk, "r", "t");
                tick(desk, ways[i]);
                ask("behind " + ways[i], desk, "r", replies[i]);
                tick(desk, 86400 + more);
                desk.meet(0, "10.0.1.1");
                ask("another", desk, "x", "t");
                Desk.due("it is there a day behind its LAST and " + more, desk.sieve.state(11), more == 0 ? 2 : 1);
            }
        }
    }

    private static void theRowHas24() {
        Desk.of("There are at most 24 in a row; else it comes at the end, FIRST and LAST now: t");
        Desk desk = grey(100, "10.0.0.1");
        for (int i = 1; i <= 26; i++) {
            ask("r" + i, desk, "r" + i, "t");
            Desk.due("triplets at " + i, desk.sieve.state(11), Math.min(24, i));
            desk.sieve.tick(1);
        }
        desk.sieve.tick(74);
        // r1 and r2 went ahead of r25 and r26; now is 100
        ask("r3 is there", desk, "r3", "t");
        desk.sieve.tick(2);
        ask("r3 passes", desk, "r3", "c");
        ask("r4 does not yet", desk, "r4", "t");
        ask("r1 went", desk, "r1", "t");
        desk.sieve.tick(23);
        ask("r26 passes: 24 of them were there", desk, "r26", "c");
    }

    private static void theFirstOfTheOldest() {
        Desk.of("(of 24 the one with the least LAST, of these the first in the row, goes ahead)");
        int[][] olds = {{0}, {23}, {5}, {3, 7}, {0, 23}, {22, 23}, {11, 4}};
        for (int[] old : olds) {
            Desk desk = grey(10, "10.0.0.1");
            for (int i = 0; i < 24; i++) {
                ask("r" + i, desk, "r" + i, "t");
            }
            desk.sieve.tick(1);
            int first = 24;
            for (int i = 0; i < 24; i++) {
                boolean stays = false;
                for (int k : old) {
                    stays = stays || k == i;
                    first = Math.min(first, k);
                }
                if (!stays) {
                    ask("r" + i + " again", desk, "r" + i, "t");
                }
            }
            ask("a new one", desk, "new", "t");
            Desk.due("24", desk.sieve.state(11), 24);
            desk.sieve.tick(9);
            for (int i : new int[] {(first + 1) % 24, (first + 23) % 24}) {
                ask("r" + i + " stayed", desk, "r" + i, "c");
            }
            Desk.due("the new one is too new", ask(desk, "s", "new"), "t");
            ask("r" + first + " went", desk, "r" + first, "t");
        }
        // those that are too old make room first
        Desk desk = grey(10, "10.0.0.1");
        for (int i = 0; i < 24; i++) {
            ask("r" + i, desk, "r" + i, "t");
        }
        tick(desk, 86401);
        ask("a new one", desk, "new", "t");
        Desk.due("it is alone", desk.sieve.state(11), 1);
    }

    private static void whatStaysOverAll() {
        Desk.of("the greylist is the object's, not a session's");
        Desk desk = grey(5, "10.0.0.1");
        ask("at first", desk, "r", "t");
        desk.give(0, Desk.packet('Q', ""));
        desk.sieve.tick(5);
        desk.meet(1, "10.0.0.7");
        desk.give(1, Desk.packet('M', "s\0") + Desk.packet('R', "r\0"));
        Desk.due("of another session", desk.letters(1), "cc");
        desk.sieve.crash(0);
        Desk.due("a crash leaves it", desk.sieve.state(11), 1);
        desk.line("clear");
        desk.sieve.load();
        Desk.due("a new rule set leaves it", desk.sieve.state(11), 1);
    }
}
