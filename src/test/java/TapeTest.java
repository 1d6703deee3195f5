/** Promises 1 and 2: a new object, and the tape. */
public final class TapeTest {
    public static void main(String[] args) {
        aNewObjectIsEmpty();
        feedPutsTheHighestByteFirst();
        theTapeHasRoomFor4000();
        Desk.end();
    }

    private static void aNewObjectIsEmpty() {
        MailSieve x = new MailSieve();
        for (int what = 0; what <= 12; what++) {
            Desk.due("state " + what + " of a new object", x.state(what), 0);
        }
        Desk.due("state -1", x.state(-1), -1);
        Desk.due("state 13", x.state(13), -1);
        for (int s = 0; s < 4; s++) {
            for (int what = 0; what <= 13; what++) {
                Desk.due("session " + s + " " + what + " of a new object", x.session(s, what), 0);
            }
            Desk.due("indicator of a new object", x.indicator(s), -1.0);
            Desk.due("give to a closed session", x.give(s, 0), -1);
        }
        Desk.due("order of a new object", x.order(0), -1);
        Desk.due("journal of a new object", x.journal(0), -1);
        Desk.due("load of an empty draft", x.load(), 0);
    }

    private static void feedPutsTheHighestByteFirst() {
        MailSieve x = new MailSieve();
        x.open(0);
        // a packet that can't be, told by its length 0x01020304
        Desk.due("feed", x.feed(0x01020304, -1, 0, 0, 0), 20);
        Desk.due("bytes on the tape", x.state(12), 20);
        x.give(0, 3);
        Desk.due("bytes kept", x.session(0, 3), 3);
        Desk.due("the tape behind give", x.state(12), 0);
        x.feed(0x04000000, 0, 0, 0, 0);
        x.give(0, 1);
        Desk.due("closed by the fourth byte", x.session(0, 0), 0);
        x.open(0);
        x.feed(0x00000002, 0x51000000, 0, 0, 0);
        x.give(0, 5);
        Desk.due("bytes kept of a right length", x.session(0, 3), 5);
    }

    private static void theTapeHasRoomFor4000() {
        MailSieve x = new MailSieve();
        for (int i = 1; i <= 200; i++) {
            Desk.due("feed " + i, x.feed(i, i, i, i, i), 20 * i);
        }
        Desk.due("feed without room", x.feed(1, 1, 1, 1, 1), -1);
        Desk.due("bytes on the full tape", x.state(12), 4000);
        Desk.due("line of more than there are", x.line(4001), -1);
        Desk.due("the tape stays", x.state(12), 4000);
    }
}
