/** Term 1, sentence by sentence: the tape, the clock, packets, the output, and the commands at their bounds. */
public final class Term1Test {
    private static final String FRESH = "";
    private static final String READY = Desk.greeting(0x31);
    private static final String MET = READY + Desk.client("");
    private static final String MAIL = MET + Desk.packet('M', "<a@b>\0");
    private static final String RCPT = MAIL + Desk.packet('R', "<c@d>\0");
    private static final String HEAD = RCPT + Desk.packet('L', "X\0y\0");
    private static final String BODY = HEAD + Desk.packet('N', "");
    private static final String[] WAYS = {FRESH, READY, MET, MAIL, RCPT, HEAD, BODY};
    private static final String BEAT = Desk.packet('U', "");

    public static void main(String[] args) {
        theTape();
        theClock();
        packetsUntilTheyAreWhole();
        lengths();
        whatAClosedSessionKeeps();
        closedByCommands();
        outputFor(8192);
        verdictsWithoutRoom();
        strings();
        greetings();
        definitions();
        heartbeats();
        clients();
        addresses();
        lookingUpBehindClient();
        hellos();
        senders();
        recipients();
        emptyCommands();
        headers();
        bodies();
        ends();
        aborts();
        quits();
        whileWaiting();
        Desk.end();
    }

    private static void state(String what, String packets, int want) {
        Desk.due(what, Desk.in(packets).sieve.session(0, 0), want);
    }

    /** A packet in a state (its way) leads to a state and these replies. */
    private static void step(String way, char letter, String data, int want, String replies) {
        stepIn(Desk.in(way), way, letter, data, want, replies);
        for (char left : "\0a.0".toCharArray()) {
            // a longer packet came before, so that these bytes stand behind those of this one
            Desk desk = Desk.in(READY + Desk.packet('A', ("" + left).repeat(data.length() + 600)));
            desk.sieve.open(0);
            desk.give(0, way);
            stepIn(desk, way, letter, data, want, replies);
        }
    }

    private static void stepIn(Desk desk, String way, char letter, String data, int want, String replies) {
        desk.sieve.clear(0);
        desk.give(0, Desk.packet(letter, data));
        String what = letter + " with " + data.replace('\0', '~') + " in state " + java.util.Arrays.asList(WAYS).indexOf(way);
        Desk.due(what, desk.sieve.session(0, 0), want);
        Desk.due("replies to " + what, desk.letters(0), replies);
    }

    // ---- the tape and the clock

    private static void theTape() {
        Desk.of("THE TAPE has at most 4,000 bytes");
        MailSieve x = new MailSieve();
        x.open(0);
        for (int i = 0; i < 199; i++) {
            x.feed(i == 0 ? 2049 : i, 0, 0, 0, 0);
        }
        Desk.due("3,980 bytes", x.state(12), 3980);
        Desk.due("the 200th feed", x.feed(7, 7, 7, 7, 7), 4000);
        Desk.due("the 201st feed", x.feed(8, 8, 8, 8, 8), -1);
        Desk.due("bytes then", x.state(12), 4000);
        Desk.due("4,001 of them", x.give(0, 4001), -1);
        Desk.due("4,000 of them", x.give(0, 4000), 0);
        Desk.due("they were the first ones", x.session(0, 0), 0);
        Desk.due("the tape is empty then", x.state(12), 0);
        Desk.due("and has room again", x.feed(1, 1, 1, 1, 1), 20);
    }

    private static void theClock() {
        Desk.of("THE CLOCK tells seconds (0 at first, at most 100,000,000)");
        MailSieve x = new MailSieve();
        Desk.due("at first", x.state(0), 0);
        for (int i = 0; i < 1157; i++) {
            x.tick(86400);
        }
        Desk.due("1,157 days", x.state(0), 1157 * 86400);
        x.tick(99999999 - 1157 * 86400);
        Desk.due("a second ahead of the bound", x.state(0), 99999999);
        Desk.due("two more", x.tick(2), -1);
        Desk.due("a day more", x.tick(86400), -1);
        Desk.due("it stays", x.state(0), 99999999);
        Desk.due("one more", x.tick(1), 100000000);
        Desk.due("one behind the bound", x.tick(1), -1);
        Desk.due("it stays there", x.state(0), 100000000);
        Desk.due("expiry at the clock", x.expire(100000000), 0);
    }

    // ---- packets

    private static void packetsUntilTheyAreWhole() {
        Desk.of("keeps what it got of a PACKET until that is whole; then the packet is done, and the next byte begins the next one");
        Desk desk = Desk.in(FRESH);
        for (int i = 0; i < READY.length(); i++) {
            Desk.due("bytes kept ahead of byte " + i, desk.sieve.session(0, 3), i);
            Desk.due("not done ahead of byte " + i, desk.sieve.session(0, 0), 1);
            desk.give(0, READY.substring(i, i + 1));
        }
        Desk.due("done with the last byte", desk.sieve.session(0, 0), 2);
        Desk.due("nothing is kept then", desk.sieve.session(0, 3), 0);
        desk.give(0, "\0");
        Desk.due("the next one begins", desk.sieve.session(0, 3), 1);
        desk.give(0, Desk.client("").substring(1) + "\0\0\0");
        Desk.due("done from two gives", desk.sieve.session(0, 0), 3);
        Desk.due("three bytes of the next", desk.sieve.session(0, 3), 3);
    }

    private static void lengths() {
        Desk.of("four bytes, its LENGTH, 1 to 2,048");
        state("length 1", MET + "\0\0\0\u0001K", 2);
        state("length 2,048", MET + Desk.packet('U', "x".repeat(2047)), 3);
        Desk.due("a packet of 2,048 is done", Desk.in(MET + Desk.packet('U', "x".repeat(2047))).letters(0), "Occ");
        Desk desk = Desk.in(MET + Desk.packet('U', "x".repeat(2047)).substring(0, 2051));
        Desk.due("all but its last byte are kept", desk.sieve.session(0, 3), 2051);
        desk.give(0, "x" + BEAT);
        Desk.due("it and the next one", desk.letters(0), "Occc");
        Desk.of("closes as soon as the four bytes of a LENGTH that can't be are there");
        int[] wrong = {0, 2049, 4096, 65536, 65537, 0x01000001, Integer.MAX_VALUE, Integer.MIN_VALUE, 0x80000001, -1};
        for (int length : wrong) {
            String bytes = Desk.number(length);
            state("three bytes of length " + length, MET + bytes.substring(0, 3), 3);
            state("length " + length, MET + bytes, 0);
            state("length " + length + " when fresh", bytes, 0);
        }
        for (int length : new int[] {1, 2, 255, 256, 2047, 2048}) {
            state("length " + length, MET + Desk.number(length), 3);
        }
    }

    // ---- closing

    /** All that a session keeps and forgets when these bytes close it. */
    private static void closes(String what, String bytes) {
        Desk desk = Desk.with("grey 5");
        desk.sieve.open(0);
        desk.give(0, READY + Desk.client("10.0.0.1") + Desk.packet('M', "s\0") + Desk.packet('R', "r\0"));
        desk.sieve.tick(5);
        desk.give(0, Desk.packet('R', "r\0") + Desk.packet('N', "") + Desk.packet('E', "told words"));
        desk.give(0, Desk.packet('M', "s\0") + Desk.packet('R', "r\0") + Desk.packet('L', "A\0b\0") + Desk.packet('N', "") + Desk.packet('B', "abc"));
        int out = desk.sieve.session(0, 2);
        Desk.due(what + ": how many bytes give tells", desk.give(0, bytes + BEAT + "\0\0"), out);
        Desk.due(what + ": state", desk.sieve.session(0, 0), 0);
        Desk.due(what + ": granted", desk.sieve.session(0, 1), 0);
        Desk.due(what + ": output", desk.sieve.session(0, 2), out);
        for (int k = 3; k <= 7; k++) {
            Desk.due(what + ": session " + k, desk.sieve.session(0, k), 0);
        }
        Desk.due(what + ": text", desk.text(0), "told words\n");
        Desk.due(what + ": tokens", desk.sieve.session(0, 13), 2);
        Desk.due(what + ": indicator", desk.sieve.indicator(0), 0.5);
        desk.tape(new byte[20]);
        Desk.due(what + ": give to it", desk.sieve.give(0, 5), -1);
        Desk.due(what + ": the tape stays", desk.sieve.state(12), 20);
        Desk.due(what + ": learnt yet", desk.sieve.learn(0, true), 2);
        Desk.due(what + ": opened again", desk.sieve.open(0), true);
        desk.sieve.give(0, 0);
        desk.sieve.clear(0);
        desk.give(0, READY + Desk.packet('A', ""));
        Desk.due(what + ": there was no C since then", desk.sieve.session(0, 0), 2);
        desk.sieve.open(0);
        desk.sieve.clear(0);
        // an address that was not forgotten would ask the greylist
        desk.give(0, READY + Desk.client("") + Desk.packet('M', "s\0") + Desk.packet('R', "new\0"));
        Desk.due(what + ": begins anew", desk.letters(0), "Occc");
    }

    private static void whatAClosedSessionKeeps() {
        Desk.of("A session CLOSES (its OUTPUT and what is told of its latest message stay; all else is forgotten, further bytes are ignored)");
        closes("a length that can't be", "\0\0\0\0");
        closes("a command that is none", Desk.packet('Z', ""));
        closes("a command not for the state", Desk.packet('M', "a\0"));
        closes("data that are not as said", Desk.packet('D', ""));
        closes("Q", Desk.packet('Q', ""));
    }

    private static void closedByCommands() {
        Desk.of("closes by a command that is not one of those below or not for the STATE");
        String letters = "ODUCHMRTLNBEAKQ";
        for (int c = 0; c < 256; c++) {
            boolean one = letters.indexOf(c) >= 0;
            Desk desk = Desk.in(MET + Desk.packet((char) c, ""));
            if (!one) {
                Desk.due("command " + c, desk.sieve.session(0, 0), 0);
                Desk.due("no reply to command " + c, desk.sieve.session(0, 2), 22);
            }
        }
        String[] data = {Desk.number(6) + Desk.number(0) + Desk.number(0), "x", "", "h\0U", "x\0", "a\0", "a\0", "", "a\0b\0", "", "", "", "", "",
            ""};
        String[] replies = {"O", "", "c", "c", "c", "c", "c", "c", "c", "c", "c", "a", "", "", ""};
        int[][] next = {
            {2, 0, 0, 0, 0, 0, 0}, {0, 2, 3, 4, 5, 6, 7}, {0, 0, 3, 4, 5, 6, 7}, {0, 3, 0, 0, 0, 0, 0}, {0, 0, 3, 0, 0, 0, 0},
            {0, 0, 4, 0, 0, 0, 0}, {0, 0, 0, 5, 5, 0, 0}, {0, 0, 0, 0, 5, 0, 0}, {0, 0, 0, 0, 6, 6, 0}, {0, 0, 0, 0, 7, 7, 0},
            {0, 0, 0, 0, 0, 0, 7}, {0, 0, 0, 0, 0, 3, 3}, {0, 2, 3, 3, 3, 3, 3}, {0, 2, 2, 2, 2, 2, 2}, {0, 0, 0, 0, 0, 0, 0}};
        for (int c = 0; c < letters.length(); c++) {
            for (int w = 0; w < WAYS.length; w++) {
                step(WAYS[w], letters.charAt(c), data[c], next[c][w], next[c][w] == 0 ? "" : replies[c]);
            }
        }
    }

    /** A session in MET with so many bytes of output: O has 17, c has 5. */
    private static Desk filled(int length) {
        Desk desk = new Desk();
        int greetings = 1;
        while ((length - 17 * greetings) % 5 != 0) {
            greetings++;
        }
        for (int i = 0; i < greetings; i++) {
            desk.sieve.open(0);
            desk.give(0, READY);
        }
        desk.give(0, Desk.client("") + BEAT.repeat((length - 17 * greetings) / 5 - 1));
        Desk.due("filled", desk.sieve.session(0, 2), length);
        Desk.due("open with " + length, desk.sieve.session(0, 0), 3);
        return desk;
    }

    private static void outputFor(int most) {
        Desk.of("by a reply for which its OUTPUT has no room (it has at most 8,192 bytes; nothing of that reply comes)");
        for (int length = most - 10; length <= most; length++) {
            Desk desk = filled(length);
            boolean room = length + 5 <= most;
            Desk.due("give with " + length, desk.give(0, BEAT), room ? length + 5 : length);
            Desk.due("state with " + length, desk.sieve.session(0, 0), room ? 3 : 0);
            Desk.due("the last byte", desk.sieve.output(0, desk.sieve.session(0, 2) - 1), (int) 'c');
            Desk.due("behind the last byte", desk.sieve.output(0, desk.sieve.session(0, 2)), -1);
            Desk.due("clear", desk.sieve.clear(0), room ? length + 5 : length);
        }
        for (int length = most - 20; length <= most - 14; length++) {
            Desk desk = filled(length);
            desk.sieve.open(0);
            boolean room = length + 17 <= most;
            Desk.due("O with " + length, desk.give(0, READY), room ? length + 17 : length);
            Desk.due("state of O with " + length, desk.sieve.session(0, 0), room ? 2 : 0);
            Desk.due("granted by O with " + length, desk.sieve.session(0, 1), room ? 0x31 : 0);
        }
        Desk full = filled(most);
        full.give(0, Desk.packet('D', "x") + Desk.packet('A', ""));
        Desk.due("commands without a reply need no room", full.sieve.session(0, 0), 3);
        full.sieve.clear(0);
        Desk.due("an empty output has room", full.give(0, BEAT), 5);
    }

    /** A verdict of h (20 bytes without rules) and a (5), with so many bytes left for them. */
    private static void verdict(int left, String replies) {
        Desk desk = new Desk();
        desk.line("limits 0 1 1");
        desk.sieve.load();
        int greetings = 1;
        int length = 8192 - left - 20;
        while ((length - 17 * greetings) % 5 != 0) {
            greetings++;
        }
        for (int i = 0; i < greetings; i++) {
            desk.sieve.open(0);
            desk.give(0, READY);
        }
        desk.give(0, Desk.client("") + BEAT.repeat((length - 17 * greetings) / 5 - 1));
        desk.give(0, RCPT.substring(MET.length()) + Desk.packet('L', "a\0b\0") + Desk.packet('N', "") + Desk.packet('E', "judged"));
        Desk.due("state with " + left + " left", desk.sieve.session(0, 0), left >= 25 ? 3 : 0);
        Desk.due("text with " + left + " left", desk.text(0), "judged\n");
        Desk.due("learnt with " + left + " left", desk.sieve.learn(0, true), 1);
        String all = desk.letters(0);
        Desk.due("replies with " + left + " left", all.substring(all.lastIndexOf('c') + 1), replies);
    }

    private static void verdictsWithoutRoom() {
        Desk.of("nothing of that reply comes, nor of those behind it; what was judged is judged all the same");
        int[] left = {0, 4, 5, 19, 20, 24, 25, 26};
        String[] replies = {"", "", "", "", "h", "h", "ha", "ha"};
        for (int i = 0; i < left.length; i++) {
            verdict(left[i], replies[i]);
        }
        for (int rest = 4; rest <= 5; rest++) {
            Desk great = filled(8192 - rest - 60);
            great.give(0, RCPT.substring(MET.length()) + Desk.packet('L', "a\0b\0") + Desk.packet('N', "") + Desk.packet('E', "judged"));
            great.give(0, RCPT.substring(MET.length()) + Desk.packet('L', "n\0" + "v".repeat(2000) + "\0").repeat(2) + Desk.packet('N', "")
                + BEAT.repeat(2));
            Desk.due("a great one with " + rest + " left", great.sieve.session(0, 2), 8192 - rest);
            Desk.due("judged before", great.sieve.indicator(0), 0.5);
            great.give(0, Desk.packet('E', ""));
            Desk.due("its state with " + rest + " left", great.sieve.session(0, 0), rest == 5 ? 3 : 0);
            Desk.due("judged with " + rest + " left", great.sieve.indicator(0), -1.0);
            Desk.due("its text with " + rest + " left", great.text(0), "");
        }
    }

    private static void strings() {
        Desk.of("A STRING is any bytes but 0, and a 0 behind them");
        StringBuilder all = new StringBuilder();
        for (int c = 1; c < 256; c++) {
            all.append((char) c);
        }
        step(MET, 'H', all + "\0", 3, "c");
        step(MET, 'H', "\0", 3, "c");
        step(MET, 'H', all.toString(), 0, "");
        step(MET, 'H', "a\0b", 0, "");
        step(MET, 'H', "\0\0", 0, "");
        step(RCPT, 'L', all + "\0" + all + "\0", 6, "c");
    }

    // ---- the commands

    private static void greeting(int version, int actions, int steps) {
        Desk desk = Desk.in(Desk.packet('O', Desk.number(version) + Desk.number(actions) + Desk.number(steps)));
        int told = version < 0 || version > 6 ? 6 : version;
        Desk.due("O of " + version, desk.output(0), Desk.packet('O', Desk.number(told) + Desk.number(actions & 0x31) + Desk.number(steps & 0x100)));
        Desk.due("granted of " + actions, desk.sieve.session(0, 1), actions & 0x31);
        Desk.due("state of O of " + version, desk.sieve.session(0, 0), 2);
    }

    private static void greetings() {
        Desk.of("O: a version, 2 or more; the least of the version and 6");
        for (int version : new int[] {2, 3, 5, 6, 7, 256, Integer.MAX_VALUE, Integer.MIN_VALUE, -1}) {
            greeting(version, 0x31, 0x100);
        }
        for (int version : new int[] {0, 1}) {
            step(FRESH, 'O', Desk.number(version) + Desk.number(1) + Desk.number(1), 0, "");
        }
        Desk.of("O: of the actions those of the bits 0x31 (they are GRANTED), of the steps those of the bit 0x100");
        for (int bit = 0; bit < 32; bit++) {
            greeting(6, 1 << bit, 1 << bit);
        }
        greeting(6, -1, -1);
        greeting(6, 0, 0);
        Desk.of("O: three numbers of four bytes");
        String right = Desk.number(6) + Desk.number(0) + Desk.number(0);
        step(FRESH, 'O', right.substring(1), 0, "");
        step(FRESH, 'O', right + "\0", 0, "");
        step(FRESH, 'O', "", 0, "");
        step(FRESH, 'O', right, 2, "O");
    }

    private static void definitions() {
        Desk.of("D: a byte, then strings, an even number of them, nothing behind. No reply, nothing is done");
        for (int s = 2; s <= 7; s++) {
            String way = WAYS[s - 1];
            step(way, 'D', "", 0, "");
            step(way, 'D', "\0", s, "");
            step(way, 'D', "Ca\0", 0, "");
            step(way, 'D', "Ca\0b\0", s, "");
            step(way, 'D', "C\0\0", s, "");
            step(way, 'D', "C\0\0\0", 0, "");
            step(way, 'D', "C\0\0\0\0", s, "");
            step(way, 'D', "Ca\0b\0c", 0, "");
            step(way, 'D', "Cab", 0, "");
        }
        Desk desk = Desk.in(BODY + Desk.packet('D', "Ca\0b\0"));
        Desk.due("recipients stay", desk.sieve.session(0, 4), 1);
        Desk.due("headers stay", desk.sieve.session(0, 5), 1);
        Desk.due("what is granted stays", desk.sieve.session(0, 1), 0x31);
    }

    private static void heartbeats() {
        Desk.of("U (MET to BODY): any. Reply c");
        for (int s = 3; s <= 7; s++) {
            step(WAYS[s - 1], 'U', "", s, "c");
            step(WAYS[s - 1], 'U', "any\0bytes", s, "c");
        }
    }

    private static void clients() {
        Desk.of("C: a string, the host; a byte, the FAMILY; U: nothing behind; L, 4 or 6: two bytes, a string, the address");
        String[] right = {"\0U", "h\0U", "h\0L\0\0\0", "h\0L\0\u0019path\0", "h\0006\0\u0019\0", "h\0006\u00ff\u00ff::1\0", "h\0004\0\0"
            + "1.2.3.4\0", "\0004\u0019\0" + "1.2.3.4\0"};
        for (String data : right) {
            step(READY, 'C', data, 3, "c");
        }
        String[] wrong = {"", "h", "U", "h\0", "\0", "h\0U\0", "h\0Ux", "h\0u", "h\0l\0\0x\0", "h\0005\0\0x\0", "h\0L", "h\0L\0", "h\0L\0\0",
            "h\0L\0\0x", "h\0L\0\0x\0\0", "h\0L\0\0x\0y\0",
            "h\0006", "h\0006\0\0", "h\0006\0\0::1", "h\0004", "h\0004\0", "h\0004\0\0", "h\0004\0\0" + "1.2.3.4", "h\0004\0\0" + "1.2.3.4\0x",
                "h\0\0", "h\0\u00ff\0\0x\0"};
        for (String data : wrong) {
            step(READY, 'C', data, 0, "");
        }
    }

    private static void addresses() {
        Desk.of("Of 4 it is an ADDRESS: four numbers 0 to 255 with points between, none with a 0 in front but 0 itself (otherwise DATA are not as said)");
        String[] right = {"0.0.0.0", "255.255.255.255", "1.10.100.0", "9.99.199.249", "250.254.255.1"};
        for (String address : right) {
            step(READY, 'C', "h\0004\0\0" + address + "\0", 3, "c");
        }
        String[] wrong = {"", ".", "...", "1", "1.2", "1.2.3", "1.2.3.", ".1.2.3", "1..2.3", "1.2.3.4.", ".1.2.3.4", "1.2.3.4.5", "256.0.0.1",
            "1.256.0.1", "1.1.256.1", "1.1.1.256",
            "1.1.1.260", "1.1.1.300", "1.1.1.999", "1.1.1.1000", "1.1.1.2550", "00.1.1.1", "1.01.1.1", "1.1.001.1", "1.1.1.00", "1.1.1.010",
                "-1.1.1.1", "+1.1.1.1", " 1.1.1.1", "1.1.1.1 ",
            "1.1.1.a", "a.1.1.1", "1,1,1,1", "1.1.1./", "1.1.1.:", "1.1.1.4294967297"};
        for (String address : wrong) {
            step(READY, 'C', "h\0004\0\0" + address + "\0", 0, "");
            step(READY, 'C', "h\0006\0\0" + address + "\0", 3, "c");
        }
    }

    private static void lookingUpBehindClient() {
        Desk.of("Then (if it did not close) of 4 each ZONE of the rule set that was loaded latest is LOOKED UP, in order");
        String[] families = {"h\0U", "h\0L\0\0" + "1.2.3.4\0", "h\0006\0\0" + "1.2.3.4\0", "h\0004\0\0" + "1.2.3.4\0", "h\0004\0\0" + "1.2.3.4\0x"};
        int[] asked = {0, 0, 0, 2, 0};
        for (int i = 0; i < families.length; i++) {
            Desk desk = Desk.with("zone a", "zone b");
            desk.line("zone c");
            desk.sieve.open(0);
            desk.give(0, READY + Desk.packet('C', families[i]));
            Desk.due("queries behind C " + families[i], desk.sieve.state(9), asked[i]);
        }
        Desk desk = Desk.with("zone a", "zone b");
        desk.meet(0, "1.2.3.4");
        Desk.due("the first is of the first zone", desk.sieve.query(0, 21), (int) 'a');
        Desk.due("the second of the second", desk.sieve.query(1, 21), (int) 'b');
        Desk full = Desk.with("zone a");
        full.sieve.open(0);
        full.give(0, MET + BEAT.repeat(1634) + Desk.packet('K', ""));
        Desk.due("8,192 bytes", full.sieve.session(0, 2), 8192);
        full.give(0, Desk.client("1.2.3.4"));
        Desk.due("closed without room", full.sieve.session(0, 0), 0);
        Desk.due("then nothing is looked up", full.sieve.state(9), 0);
    }

    private static void hellos() {
        Desk.of("H (MET): a string. Reply c");
        step(MET, 'H', "", 0, "");
        step(MET, 'H', "me\0", 3, "c");
        step(MET, 'H', "me\0you\0", 0, "");
        state("several times", MET + Desk.packet('H', "a\0").repeat(3), 3);
    }

    /** Asks the greylist for a triplet twice: whether the second names are the same for it as the first. */
    private static void same(String what, boolean want, String sender, String recipient, String sender2, String recipient2) {
        Desk desk = Desk.with("grey 1");
        desk.meet(0, "10.0.0.1");
        desk.give(0, Desk.packet('M', sender + "\0") + Desk.packet('R', recipient + "\0") + Desk.packet('A', ""));
        desk.sieve.tick(1);
        desk.sieve.clear(0);
        desk.give(0, Desk.packet('M', sender2 + "\0") + Desk.packet('R', recipient2 + "\0"));
        Desk.due(what, desk.letters(0), want ? "cc" : "ct");
    }

    private static void senders() {
        Desk.of("M: strings, one or more: the first is the SENDER");
        step(MET, 'M', "", 0, "");
        step(MET, 'M', "a", 0, "");
        step(MET, 'M', "\0", 4, "c");
        step(MET, 'M', "a\0b\0c\0", 4, "c");
        step(MET, 'M', "a\0b\0c", 0, "");
        same("the first alone", true, "a\0SIZE=1", "r", "a\0SIZE=2", "r");
        same("not the second", false, "a\0b", "r", "b\0a", "r");
        Desk.of("without < as its first and > as its last byte, if both are there");
        same("both", true, "<a>", "r", "a", "r");
        same("the first one alone", false, "<a", "r", "a", "r");
        same("the last one alone", false, "a>", "r", "a", "r");
        same("nothing within", true, "<>", "r", "", "r");
        same("a sign alone", false, "<", "r", "", "r");
        same("the other sign alone", false, ">", "r", "", "r");
        same("one pair alone", false, "<<a>>", "r", "<a>", "r");
        same("not in the middle", false, "x<a>", "r", "xa", "r");
        same("not the wrong way round", false, ">a<", "r", "a", "r");
        same("of the recipient likewise", true, "a", "<r>", "a", "r");
        same("its first sign alone", false, "a", "<r", "a", "r");
        same("its last sign alone", false, "a", "r>", "a", "r");
        same("its signs alone", true, "a", "<>", "a", "");
        same("the recipient's first string", true, "a", "r\0x", "a", "r\0y");
    }

    private static void recipients() {
        Desk.of("R: likewise: a RECIPIENT");
        step(MAIL, 'R', "", 0, "");
        step(MAIL, 'R', "a", 0, "");
        step(MAIL, 'R', "\0", 5, "c");
        step(RCPT, 'R', "a\0b\0", 5, "c");
        step(RCPT, 'R', "a\0b", 0, "");
        Desk.of("R: Reply t when there are 20 (the greylist is not asked then)");
        Desk desk = Desk.in(MAIL);
        desk.sieve.clear(0);
        for (int i = 1; i <= 20; i++) {
            desk.give(0, Desk.packet('R', "same\0"));
            Desk.due("recipient " + i, desk.letters(0), "c");
            Desk.due("recipients at " + i, desk.sieve.session(0, 4), i);
        }
        for (int i = 0; i < 2; i++) {
            desk.give(0, Desk.packet('R', "more\0"));
            Desk.due("one more", desk.letters(0), "t");
            Desk.due("recipients stay", desk.sieve.session(0, 4), 20);
            Desk.due("the state stays", desk.sieve.session(0, 0), 5);
        }
        desk.give(0, Desk.packet('A', "") + Desk.packet('M', "a\0") + Desk.packet('R', "r\0"));
        Desk.due("of the next message the first", desk.letters(0), "cc");
        int[] before = {19, 20};
        for (int there : before) {
            Desk grey = Desk.with("grey 1");
            grey.meet(0, "10.0.0.1");
            grey.give(0, Desk.packet('M', "s\0") + Desk.packet('R', "r\0"));
            grey.sieve.tick(1);
            grey.give(0, Desk.packet('R', "r\0").repeat(there));
            Desk.due("recipients", grey.sieve.session(0, 4), there);
            grey.sieve.clear(0);
            grey.give(0, Desk.packet('R', "new\0"));
            Desk.due("a new one behind " + there, grey.letters(0), "t");
            Desk.due("triplets behind " + there, grey.sieve.state(11), there == 20 ? 1 : 2);
        }
    }

    private static void emptyCommands() {
        Desk.of("T (RCPT): no bytes. Reply c");
        step(RCPT, 'T', "", 5, "c");
        step(RCPT, 'T', "\0", 0, "");
        Desk.of("N (RCPT, HEAD): no bytes. Reply c; BODY");
        step(RCPT, 'N', "", 7, "c");
        step(HEAD, 'N', "", 7, "c");
        step(RCPT, 'N', "\0", 0, "");
        step(HEAD, 'N', "x", 0, "");
    }

    private static void headers() {
        Desk.of("L (RCPT, HEAD): just two strings: a header's name and value. Reply c; HEAD");
        String[] wrong = {"", "\0", "a\0", "a\0b", "a\0b\0c", "a\0b\0c\0", "\0\0\0"};
        for (String data : wrong) {
            step(RCPT, 'L', data, 0, "");
            step(HEAD, 'L', data, 0, "");
        }
        for (String data : new String[] {"\0\0", "a\0\0", "\0b\0", "a\0b\0"}) {
            step(RCPT, 'L', data, 6, "c");
            step(HEAD, 'L', data, 6, "c");
        }
        Desk.due("headers", Desk.in(HEAD + Desk.packet('L', "\0\0")).sieve.session(0, 5), 2);
    }

    private static void bodies() {
        Desk.of("B (BODY): bytes, which come behind the BODY. Reply c, but s when the message is GREAT");
        step(BODY, 'B', "", 7, "c");
        Desk desk = Desk.in(BODY + Desk.packet('B', "one ") + Desk.packet('B', "") + Desk.packet('B', "t\0wo"));
        Desk.due("bytes", desk.sieve.session(0, 6), 8);
        desk.give(0, Desk.packet('E', " end"));
        Desk.due("all of them", desk.text(0), "one t\0wo end\n");
        Desk great = Desk.in(BODY + Desk.packet('B', "x".repeat(2000)).repeat(3));
        great.sieve.clear(0);
        great.give(0, Desk.packet('B', ""));
        Desk.due("6,000 bytes and none", great.letters(0), "c");
        great.give(0, Desk.packet('B', "y"));
        Desk.due("6,001 bytes", great.letters(0), "s");
        great.give(0, Desk.packet('B', ""));
        Desk.due("none behind them", great.letters(0), "s");
        Desk.due("the state", great.sieve.session(0, 0), 7);
    }

    private static void ends() {
        Desk.of("E (HEAD, BODY): bytes, likewise, but no reply for them; then the message is JUDGED; MET when the last reply of that comes");
        step(HEAD, 'E', "", 3, "a");
        step(HEAD, 'E', "x", 3, "a");
        step(BODY, 'E', "x", 3, "a");
        step(RCPT, 'E', "", 0, "");
        Desk desk = Desk.in(HEAD + Desk.packet('E', "of HEAD"));
        Desk.due("bytes from HEAD", desk.text(0), "of HEAD\n");
        Desk.due("no message then", desk.sieve.session(0, 4) + desk.sieve.session(0, 5) + desk.sieve.session(0, 6) + desk.sieve.session(0, 7), 0);
        desk.give(0, Desk.packet('M', "a\0"));
        Desk.due("the next one begins", desk.sieve.session(0, 0), 4);
    }

    private static void aborts() {
        Desk.of("A (all but FRESH): the message is given up: MET when there was a C since READY, else READY; no reply");
        int[] behind = {0, 2, 3, 3, 3, 3, 3};
        for (int w = 0; w < WAYS.length; w++) {
            step(WAYS[w], 'A', "any\0", behind[w], "");
            Desk desk = Desk.in(WAYS[w] + Desk.packet('A', ""));
            for (int what = 4; what <= 7; what++) {
                Desk.due("session " + what + " behind A", desk.sieve.session(0, what), 0);
            }
        }
        state("A, then the same again", BODY + Desk.packet('A', "") + BODY.substring(MET.length()), 7);
        state("A behind K", BODY + Desk.packet('K', "") + Desk.packet('A', ""), 2);
        state("A behind K and C", BODY + Desk.packet('K', "") + Desk.client("") + Desk.packet('A', ""), 3);
        Desk great = Desk.in(BODY + Desk.packet('B', "x".repeat(2000)).repeat(3) + Desk.packet('B', "x"));
        Desk.due("a great one", great.sieve.session(0, 7), 1);
        great.give(0, Desk.packet('A', "") + BODY.substring(MET.length()));
        Desk.due("the next one is not great", great.sieve.session(0, 7), 0);
        Desk.of("K (all but FRESH): likewise, but READY; what C told is forgotten");
        int[] ready = {0, 2, 2, 2, 2, 2, 2};
        for (int w = 0; w < WAYS.length; w++) {
            step(WAYS[w], 'K', "any", ready[w], "");
            Desk desk = Desk.in(WAYS[w] + Desk.packet('K', ""));
            for (int what = 4; what <= 7; what++) {
                Desk.due("session " + what + " behind K", desk.sieve.session(0, what), 0);
            }
        }
        state("A in READY of one that is opened again", BODY, 7);
        Desk again = Desk.in(BODY);
        again.sieve.open(0);
        again.give(0, READY + Desk.packet('A', ""));
        Desk.due("A when it is opened again", again.sieve.session(0, 0), 2);
        Desk desk = Desk.with("grey 1");
        desk.meet(0, "10.0.0.1");
        desk.give(0, Desk.packet('K', "") + Desk.client("") + Desk.packet('M', "a\0") + Desk.packet('R', "b\0"));
        Desk.due("without its address", desk.letters(0), "ccc");
        Desk.due("still granted", desk.sieve.session(0, 1), 0x31);
    }

    private static void quits() {
        Desk.of("Q (any): it closes, no reply. (DATA of these three are any.)");
        for (String way : WAYS) {
            step(way, 'Q', "", 0, "");
            step(way, 'Q', "any\0bytes", 0, "");
        }
    }

    private static void whileWaiting() {
        Desk.of("the states in which they may come: WAITING");
        String letters = "ODUCHMRTLNBEAKQ";
        String[] data = {Desk.number(6) + Desk.number(0) + Desk.number(0), "x", "", "h\0U", "x\0", "a\0", "a\0", "", "a\0b\0", "", "", "", "", "",
            ""};
        for (int c = 0; c < letters.length(); c++) {
            Desk desk = Desk.with("zone a");
            desk.meet(0, "10.0.0.1");
            desk.give(0, Desk.message("words"));
            Desk.due("WAITING", desk.sieve.session(0, 0), 8);
            Desk.due("its recipients", desk.sieve.session(0, 4), 1);
            Desk.due("its bytes", desk.sieve.session(0, 6), 5);
            int out = desk.sieve.session(0, 2);
            Desk.due("no reply to " + letters.charAt(c), desk.give(0, Desk.packet(letters.charAt(c), data[c])), out);
            int want = letters.charAt(c) == 'A' ? 3 : letters.charAt(c) == 'K' ? 2 : 0;
            Desk.due(letters.charAt(c) + " while WAITING", desk.sieve.session(0, 0), want);
            desk.sieve.tick(5);
            Desk.due("given up behind " + letters.charAt(c), desk.sieve.session(0, 2), out);
            Desk.due("not judged behind " + letters.charAt(c), desk.sieve.indicator(0), -1.0);
        }
        Desk desk = Desk.with("zone a");
        desk.meet(0, "10.0.0.1");
        desk.give(0, Desk.message("words") + "\0\0\0\u0001");
        Desk.due("bytes may come while WAITING", desk.sieve.session(0, 3), 4);
        desk.sieve.tick(5);
        Desk.due("and are kept when it goes on", desk.sieve.session(0, 3), 4);
        desk.give(0, "U");
        Desk.due("for MET", desk.sieve.session(0, 0), 3);
    }
}
