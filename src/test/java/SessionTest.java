/** Promises 3 to 6 and 21: open, give, output, clear, session, and the commands of term 1. */
public final class SessionTest {
    private static final String GREETING = Desk.packet('O', Desk.number(6) + Desk.number(0x31) + Desk.number(0x1FF));
    private static final String CLIENT = Desk.client("");
    private static final String SENDER = Desk.packet('M', "<a@b>\0");
    private static final String RECIPIENT = Desk.packet('R', "<c@d>\0");
    private static final String HEADER = Desk.packet('L', "Subject\0hi\0");
    private static final String BODY = Desk.packet('N', "");
    private static final String END = Desk.packet('E', "");

    public static void main(String[] args) {
        sessionsAreFour();
        openForgetsAllButOutputAndVerdict();
        lengthsThatCantBeClose();
        packetsComeInPieces();
        greetings();
        clients();
        commandsHaveTheirStates();
        dataThatAreNotAsSaidClose();
        givingUp();
        recipientsAreTwenty();
        greatByHeaders();
        greatByBody();
        outputHasRoomFor8192();
        judgedWithoutRoom();
        Desk.end();
    }

    private static Desk in(String packets) {
        Desk desk = new Desk();
        desk.sieve.open(0);
        desk.give(0, packets);
        return desk;
    }

    private static void stateAfter(String what, String packets, int state) {
        Desk.due(what, in(packets).sieve.session(0, 0), state);
    }

    private static void sessionsAreFour() {
        MailSieve x = new MailSieve();
        for (int s : new int[] {-1, 4, Integer.MIN_VALUE, Integer.MAX_VALUE}) {
            Desk.due("open " + s, x.open(s), false);
            Desk.due("give " + s, x.give(s, 0), -1);
            Desk.due("output " + s, x.output(s, 0), -1);
            Desk.due("clear " + s, x.clear(s), -1);
            Desk.due("session " + s, x.session(s, 0), -1);
            Desk.due("held " + s, x.held(s, 0), -1);
            Desk.due("text " + s, x.text(s, 0), -1);
            Desk.due("indicator " + s, x.indicator(s), -1.0);
            Desk.due("learn " + s, x.learn(s, true), -1);
        }
        for (int s = 0; s < 4; s++) {
            Desk.due("open " + s, x.open(s), true);
            Desk.due("fresh " + s, x.session(s, 0), 1);
            Desk.due("give nothing", x.give(s, 0), 0);
            Desk.due("give below 0", x.give(s, -1), -1);
            Desk.due("give more than there are", x.give(s, 1), -1);
            Desk.due("session of no such what", x.session(s, 14), -1);
            Desk.due("session of what below 0", x.session(s, -1), -1);
        }
    }

    private static void openForgetsAllButOutputAndVerdict() {
        Desk desk = in(GREETING + CLIENT + Desk.message("word words", "Subject", "hello") + SENDER + "\0\0");
        Desk.due("bytes kept", desk.sieve.session(0, 3), 2);
        Desk.due("state", desk.sieve.session(0, 0), 4);
        int out = desk.sieve.session(0, 2);
        desk.sieve.open(0);
        Desk.due("state when open again", desk.sieve.session(0, 0), 1);
        Desk.due("granted when open again", desk.sieve.session(0, 1), 0);
        Desk.due("output stays", desk.sieve.session(0, 2), out);
        Desk.due("packet is forgotten", desk.sieve.session(0, 3), 0);
        Desk.due("text stays", desk.text(0), "word words\n");
        Desk.due("indicator stays", desk.sieve.indicator(0), 0.5);
        Desk.due("clear tells how many", desk.sieve.clear(0), out);
        Desk.due("clear again", desk.sieve.clear(0), 0);
        Desk.due("output is empty", desk.sieve.output(0, 0), -1);
    }

    private static void lengthsThatCantBeClose() {
        stateAfter("length 0", "\0\0\0\0", 0);
        stateAfter("length 2,049", "\0\0\u0008\u0001", 0);
        stateAfter("length with the highest bit", "\u00ff\0\0\u0001", 0);
        stateAfter("length 2,048", "\0\0\u0008\0", 1);
        stateAfter("three bytes of it", "\0\0\u0008", 1);
        Desk desk = in(GREETING + "\0\0\0\0" + CLIENT);
        Desk.due("bytes behind are ignored", desk.letters(0), "O");
        Desk.due("granted when closed", desk.sieve.session(0, 1), 0);
        Desk.due("give to the closed one", desk.give(0, CLIENT), -1);
    }

    private static void packetsComeInPieces() {
        Desk desk = new Desk();
        desk.sieve.open(0);
        String all = GREETING + CLIENT + SENDER;
        for (int i = 0; i < all.length(); i++) {
            desk.give(0, all.substring(i, i + 1));
        }
        Desk.due("state", desk.sieve.session(0, 0), 4);
        Desk.due("replies", desk.letters(0), "Occ");
        Desk.due("nothing is kept", desk.sieve.session(0, 3), 0);
        desk.give(0, RECIPIENT.substring(0, 7));
        Desk.due("seven bytes are kept", desk.sieve.session(0, 3), 7);
    }

    private static void greetings() {
        Desk desk = in(Desk.packet('O', Desk.number(2) + Desk.number(-1) + Desk.number(-1)));
        Desk.due("reply", desk.output(0), Desk.packet('O', Desk.number(2) + Desk.number(0x31) + Desk.number(0x100)));
        Desk.due("granted", desk.sieve.session(0, 1), 0x31);
        desk = in(Desk.packet('O', Desk.number(-1) + Desk.number(0x4E) + Desk.number(0xFF)));
        Desk.due("a great version", desk.output(0), Desk.packet('O', Desk.number(6) + Desk.number(0) + Desk.number(0)));
        stateAfter("version 1", Desk.packet('O', Desk.number(1) + Desk.number(0) + Desk.number(0)), 0);
        stateAfter("version 0", Desk.packet('O', Desk.number(0) + Desk.number(0) + Desk.number(0)), 0);
        stateAfter("too few data", Desk.packet('O', Desk.number(6) + Desk.number(0)), 0);
        stateAfter("too many data", Desk.packet('O', Desk.number(6) + Desk.number(0) + Desk.number(0) + "x"), 0);
        stateAfter("READY", GREETING, 2);
        stateAfter("a second O", GREETING + GREETING, 0);
    }

    private static void clients() {
        String[] right = {"h\0U", "\0U", "h\0L\0\0/path\0", "h\0006\0\u0019::1\0", "h\0004\0\u00191.2.3.4\0",
            "h\0004\0\u00190.0.0.0\0", "h\0004\u0001\u0001255.255.255.255\0"};
        for (String data : right) {
            stateAfter("C " + data, GREETING + Desk.packet('C', data), 3);
        }
        String[] wrong = {"", "h", "h\0", "h\0Ux", "h\0X", "h\0L", "h\0L\0\0", "h\0L\0\0x", "h\0L\0\0x\0y", "h\0004\0\u00191.2.3\0",
            "h\0004\0\u00191.2.3.4.5\0", "h\0004\0\u00191.2.3.256\0", "h\0004\0\u001901.2.3.4\0", "h\0004\0\u00191.2.3.00\0",
            "h\0004\0\u0019\0", "h\0004\0\u00191.2.3.\0", "h\0004\0\u0019.1.2.3\0", "h\0004\0\u00191.2.3.4 \0", "h\0004\0\u00191.2.3.4\0\0"};
        for (String data : wrong) {
            stateAfter("C " + data, GREETING + Desk.packet('C', data), 0);
        }
    }

    private static void commandsHaveTheirStates() {
        String[] ways = {"", GREETING, GREETING + CLIENT, GREETING + CLIENT + SENDER, GREETING + CLIENT + SENDER + RECIPIENT,
            GREETING + CLIENT + SENDER + RECIPIENT + HEADER, GREETING + CLIENT + SENDER + RECIPIENT + HEADER + BODY};
        String letters = "ODUCHMRTLNBEAKQ";
        String[] data = {Desk.number(6) + Desk.number(0) + Desk.number(0), "x", "", "h\0U", "x\0", "a\0", "a\0", "", "a\0b\0", "", "", "", "", "", ""};
        // the state that follows, by the state in which the command comes; 0: it closes
        int[][] next = {
            {2, 0, 0, 0, 0, 0, 0}, {0, 2, 3, 4, 5, 6, 7}, {0, 0, 3, 4, 5, 6, 7}, {0, 3, 0, 0, 0, 0, 0}, {0, 0, 3, 0, 0, 0, 0},
            {0, 0, 4, 0, 0, 0, 0}, {0, 0, 0, 5, 5, 0, 0}, {0, 0, 0, 0, 5, 0, 0}, {0, 0, 0, 0, 6, 6, 0}, {0, 0, 0, 0, 7, 7, 0},
            {0, 0, 0, 0, 0, 0, 7}, {0, 0, 0, 0, 0, 3, 3}, {0, 2, 3, 3, 3, 3, 3}, {0, 2, 2, 2, 2, 2, 2}, {0, 0, 0, 0, 0, 0, 0}};
        for (int c = 0; c < letters.length(); c++) {
            for (int w = 0; w < ways.length; w++) {
                stateAfter(letters.charAt(c) + " in state " + (w + 1), ways[w] + Desk.packet(letters.charAt(c), data[c]), next[c][w]);
            }
        }
        for (char c : new char[] {'o', 'X', 0, 255, 'c', 'Z'}) {
            stateAfter("command " + (int) c, GREETING + Desk.packet(c, ""), 0);
        }
    }

    private static void dataThatAreNotAsSaidClose() {
        String met = GREETING + CLIENT;
        String rcpt = met + SENDER + RECIPIENT;
        stateAfter("D without a byte", GREETING + Desk.packet('D', ""), 0);
        stateAfter("D with two strings", GREETING + Desk.packet('D', "xa\0\0"), 2);
        stateAfter("D with one string", GREETING + Desk.packet('D', "xa\0"), 0);
        stateAfter("D with bytes behind", GREETING + Desk.packet('D', "xa\0b\0c"), 0);
        stateAfter("H without a string", met + Desk.packet('H', ""), 0);
        stateAfter("H with two", met + Desk.packet('H', "a\0b\0"), 0);
        stateAfter("H without its 0", met + Desk.packet('H', "a"), 0);
        stateAfter("M without a string", met + Desk.packet('M', ""), 0);
        stateAfter("M with three", met + Desk.packet('M', "a\0b\0c\0"), 4);
        stateAfter("M with bytes behind", met + Desk.packet('M', "a\0b"), 0);
        stateAfter("R without a string", met + SENDER + Desk.packet('R', ""), 0);
        stateAfter("R with two", met + SENDER + Desk.packet('R', "\0x\0"), 5);
        stateAfter("T with a byte", rcpt + Desk.packet('T', "x"), 0);
        stateAfter("N with a byte", rcpt + Desk.packet('N', "\0"), 0);
        stateAfter("L with one string", rcpt + Desk.packet('L', "a\0"), 0);
        stateAfter("L with three", rcpt + Desk.packet('L', "a\0b\0c\0"), 0);
        stateAfter("L with empty ones", rcpt + Desk.packet('L', "\0\0"), 6);
        stateAfter("U with any", met + Desk.packet('U', "\0x"), 3);
        Desk.due("replies", in(rcpt + Desk.packet('U', "") + Desk.packet('T', "") + HEADER + BODY + Desk.packet('B', "x")).letters(0), "Occccccccc".substring(0, 9));
    }

    private static void givingUp() {
        Desk desk = in(GREETING + CLIENT + SENDER + RECIPIENT + HEADER + BODY + Desk.packet('B', "abc"));
        Desk.due("recipients", desk.sieve.session(0, 4), 1);
        Desk.due("headers", desk.sieve.session(0, 5), 1);
        Desk.due("body", desk.sieve.session(0, 6), 3);
        desk.sieve.clear(0);
        desk.give(0, Desk.packet('A', "any"));
        for (int what = 2; what <= 13; what++) {
            Desk.due("session " + what + " when given up", desk.sieve.session(0, what), 0);
        }
        Desk.due("MET", desk.sieve.session(0, 0), 3);
        Desk.due("still granted", desk.sieve.session(0, 1), 0x31);
        stateAfter("A in READY behind K", GREETING + CLIENT + Desk.packet('K', "") + Desk.packet('A', ""), 2);
        stateAfter("C behind K", GREETING + CLIENT + Desk.packet('K', "") + CLIENT, 3);
        desk = in(GREETING + CLIENT + SENDER + RECIPIENT + HEADER + END);
        Desk.due("judged from HEAD", desk.letters(0), "Occcca");
        Desk.due("no message when judged", desk.sieve.session(0, 4) + desk.sieve.session(0, 5), 0);
    }

    private static void recipientsAreTwenty() {
        StringBuilder all = new StringBuilder(GREETING + CLIENT + SENDER);
        for (int i = 0; i < 21; i++) {
            all.append(Desk.packet('R', "r" + i + "\0"));
        }
        Desk desk = in(all.toString());
        Desk.due("replies", desk.letters(0), "Occ" + "c".repeat(20) + "t");
        Desk.due("recipients", desk.sieve.session(0, 4), 20);
        Desk.due("state", desk.sieve.session(0, 0), 5);
    }

    private static void greatByHeaders() {
        StringBuilder all = new StringBuilder(GREETING + CLIENT + SENDER + RECIPIENT);
        for (int i = 0; i < 40; i++) {
            all.append(Desk.packet('L', "a\0b\0"));
        }
        Desk desk = in(all.toString());
        Desk.due("40 headers", desk.sieve.session(0, 7), 0);
        desk.give(0, Desk.packet('L', "c\0d\0"));
        Desk.due("41 headers are great", desk.sieve.session(0, 7), 1);
        Desk.due("headers stay 40", desk.sieve.session(0, 5), 40);
        desk.sieve.clear(0);
        desk.give(0, BODY + Desk.packet('B', "x"));
        Desk.due("s for a body of a great one", desk.letters(0), "cs");
        Desk.due("the body is not kept", desk.sieve.session(0, 6), 0);
        desk.give(0, END);
        Desk.due("a great one is accepted", desk.letters(0), "a");
        Desk.due("state", desk.sieve.session(0, 0), 3);
        Desk.due("indicator of a great one", desk.sieve.indicator(0), -1.0);
        Desk.due("learn of a great one", desk.sieve.learn(0, true), -1);
        desk = in(GREETING + CLIENT + SENDER + RECIPIENT + Desk.packet('L', "n\0" + "v".repeat(1999) + "\0") + Desk.packet('L', "n\0" + "v".repeat(1999) + "\0"));
        Desk.due("4,000 bytes", desk.sieve.session(0, 7), 0);
        desk.give(0, Desk.packet('L', "\0\0"));
        Desk.due("4,000 bytes and an empty header", desk.sieve.session(0, 5), 3);
        desk.give(0, Desk.packet('L', "\0v\0"));
        Desk.due("4,001 bytes are great", desk.sieve.session(0, 7), 1);
        desk.give(0, Desk.packet('L', "\0\0"));
        Desk.due("nothing behind is kept", desk.sieve.session(0, 5), 3);
    }

    private static void greatByBody() {
        String start = GREETING + CLIENT + SENDER + RECIPIENT + BODY + Desk.packet('B', "x".repeat(2000)).repeat(3);
        Desk desk = in(start);
        Desk.due("6,000 bytes", desk.sieve.session(0, 6), 6000);
        Desk.due("not great", desk.sieve.session(0, 7), 0);
        desk.sieve.clear(0);
        desk.give(0, Desk.packet('B', "y"));
        Desk.due("s at 6,001", desk.letters(0), "s");
        Desk.due("the bytes stay", desk.sieve.session(0, 6), 6000);
        desk = in(GREETING + CLIENT + SENDER + RECIPIENT + BODY + Desk.packet('B', "x".repeat(2000)).repeat(2));
        desk.give(0, Desk.packet('B', "x".repeat(1999)) + Desk.packet('E', "yy"));
        Desk.due("great by E: chars", desk.sieve.session(0, 11), 0);
        Desk.due("great by E: parts", desk.sieve.session(0, 10), 0);
        desk = in(start + END);
        Desk.due("6,000 bytes are judged", desk.sieve.session(0, 11), 6001);
    }

    private static void outputHasRoomFor8192() {
        Desk desk = in(GREETING + CLIENT);
        // O has 17 bytes, each c 5: 17 + 1,635 * 5 is 8,192
        desk.give(0, Desk.packet('U', "").repeat(1634));
        Desk.due("full", desk.sieve.session(0, 2), 8192);
        Desk.due("still open", desk.sieve.session(0, 0), 3);
        Desk.due("last byte", desk.sieve.output(0, 8191), (int) 'c');
        Desk.due("behind the last", desk.sieve.output(0, 8192), -1);
        desk.give(0, Desk.packet('U', ""));
        Desk.due("closed without room", desk.sieve.session(0, 0), 0);
        Desk.due("output stays", desk.sieve.session(0, 2), 8192);
    }

    private static void judgedWithoutRoom() {
        Desk desk = new Desk();
        desk.line("limits 0 8 15");
        desk.sieve.load();
        desk.meet(0, "");
        desk.give(0, Desk.packet('U', "").repeat(1600));
        String body = SENDER + RECIPIENT + BODY + Desk.packet('E', "some words here");
        // 1,633 c and those for M, R and N are 8,180 bytes; h would have 20, and a, which had room, comes behind it
        desk.give(0, Desk.packet('U', "").repeat(33) + body);
        Desk.due("closed", desk.sieve.session(0, 0), 0);
        Desk.due("what fits", desk.sieve.session(0, 2), 8180);
        Desk.due("judged all the same", desk.text(0), "some words here\n");
        Desk.due("and learnt", desk.sieve.learn(0, true), 3);
    }
}
