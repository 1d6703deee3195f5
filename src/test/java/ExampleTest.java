/** The example of README.md, with the answers that it tells. */
public final class ExampleTest {
    public static void main(String[] args) {
        MailSieve sieve = new MailSieve();
        tellRules(sieve);
        judgeMessage(sieve);
        learnMessage(sieve);
        Desk.end();
    }

    private static void tellRules(MailSieve sieve) {
        Desk.due("a right line", sieve.line(tape(sieve, "body FREE /free money/i")), 0);
        Desk.due("a weight", sieve.line(tape(sieve, "score FREE 6.5")), 0);
        Desk.due("a line that is wrong at place 11", sieve.line(tape(sieve, "body OTHER free")), 12);
        Desk.due("a rule whose name is there", sieve.line(tape(sieve, "exists FREE date")), -2);
        Desk.due("load", sieve.load(), 1);
    }

    private static void judgeMessage(MailSieve sieve) {
        Desk.due("open", sieve.open(0), true);
        Desk.due("greeting", sieve.give(0, tape(sieve, packet("O\0\0\0\6\0\0\0\1\0\0\0\0"))), 17);
        Desk.due("client", sieve.give(0, tape(sieve, packet("Chost\0U"))), 22);
        String mail = packet("M<a@b>\0") + packet("R<c@d>\0") + packet("LSubject\0hello\0") + packet("N");
        sieve.give(0, tape(sieve, mail + packet("BGet FREE money now") + packet("E")));
        Desk.due("its state is MET", sieve.session(0, 0), 3);
        Desk.due("the score", sieve.session(0, 8), 6500);
        Desk.due("the rule that holds", sieve.held(0, 0), 0);
        Desk.due("the output", outputOf(sieve, 0), packet("O\0\0\0\6\0\0\0\1\0\0\0\0") + packet("c").repeat(6)
            + packet("hX-Sieve\0" + "6.500 FREE\0") + packet("a"));
        Desk.due("bytes that clear took away", sieve.clear(0), 76);
    }

    private static void learnMessage(MailSieve sieve) {
        Desk.due("entries", sieve.learn(0, true), 5);
        Desk.due("messages learnt as spam", sieve.state(5), 1);
        Desk.due("bytes of the journal", sieve.sync(), 48);
    }

    /** Puts a text's bytes on the tape, zeros behind them up to a multiple of twenty: how many bytes the text has. */
    static int tape(MailSieve sieve, String text) {
        int[] numbers = new int[5 * ((text.length() + 19) / 20)];
        for (int i = 0; i < text.length(); i++) {
            numbers[i / 4] |= text.charAt(i) << 24 - 8 * (i % 4);
        }
        for (int i = 0; i < numbers.length; i += 5) {
            sieve.feed(numbers[i], numbers[i + 1], numbers[i + 2], numbers[i + 3], numbers[i + 4]);
        }
        return text.length();
    }

    /** A command (or reply) and its data, its length ahead of it. */
    static String packet(String data) {
        return "\0\0" + (char) (data.length() >> 8) + (char) (data.length() & 255) + data;
    }

    static String outputOf(MailSieve sieve, int session) {
        StringBuilder all = new StringBuilder();
        for (int i = 0; sieve.output(session, i) >= 0; i++) {
            all.append((char) sieve.output(session, i));
        }
        return all.toString();
    }
}
