import java.io.ByteArrayOutputStream;
import java.nio.charset.StandardCharsets;
import java.util.Arrays;

/** What the tests share: an object under test, ways to feed it, and a count of wrong answers. */
final class Desk {
    private static final int MOST_TOLD = 30;
    /** Signs that mean something where they stand behind others. */
    static final String LITTER = "a0\u0080\n;=\"- ?>:/";
    private static int wrong = 0;
    private static int checks = 0;
    private static int sentences = 0;
    private static int checksAhead = 0;
    private static String sentence = "";

    final MailSieve sieve = new MailSieve();

    // ---- checking

    /** The checks from here on are of this sentence of the document; a sentence without a check is an error. */
    static void of(String words) {
        endSentence();
        sentence = words;
        sentences++;
        checksAhead = checks;
    }

    private static void endSentence() {
        if (sentences > 0 && checks == checksAhead) {
            wrong++;
            System.out.println("nothing was checked of: " + sentence);
        }
    }

    static void due(String what, Object got, Object want) {
        checks++;
        if (!want.equals(got)) {
            wrong++;
            if (wrong <= MOST_TOLD) {
                System.out.println((sentence.isEmpty() ? "" : "[" + sentence + "] ") + what + " answered " + got + ", due is " + want);
            }
        }
    }

    static void end() {
        endSentence();
        System.out.println((sentences > 0 ? sentences + " sentences, " : "") + checks + " checks, " + wrong + " wrong");
        if (wrong != 0 || checks == 0) {
            System.exit(1);
        }
    }

    // ---- bytes

    /** Chars 0 to 255 as bytes. */
    static byte[] bytes(String text) {
        return text.getBytes(StandardCharsets.ISO_8859_1);
    }

    static String string(byte[] bytes) {
        return new String(bytes, StandardCharsets.ISO_8859_1);
    }

    static byte[] join(byte[]... rows) {
        ByteArrayOutputStream all = new ByteArrayOutputStream();
        for (byte[] row : rows) {
            all.writeBytes(row);
        }
        return all.toByteArray();
    }

    static String number(int n) {
        return "" + (char) (n >>> 24) + (char) (n >>> 16 & 255) + (char) (n >>> 8 & 255) + (char) (n & 255);
    }

    /** A packet: its length, a letter, data. */
    static String packet(char letter, String data) {
        return number(data.length() + 1) + letter + data;
    }

    // ---- the tape

    /** Puts bytes on the tape, filled up with zeros to a multiple of 20. */
    void tape(byte[] row) {
        byte[] full = Arrays.copyOf(row, (row.length + 19) / 20 * 20);
        for (int i = 0; i < full.length; i += 20) {
            sieve.feed(intAt(full, i), intAt(full, i + 4), intAt(full, i + 8), intAt(full, i + 12), intAt(full, i + 16));
        }
    }

    private static int intAt(byte[] row, int i) {
        return (row[i] & 255) << 24 | (row[i + 1] & 255) << 16 | (row[i + 2] & 255) << 8 | row[i + 3] & 255;
    }

    int line(String text) {
        tape(bytes(text));
        return sieve.line(text.length());
    }

    int find(String expression, String row, boolean small) {
        tape(bytes(expression + row));
        return sieve.find(expression.length(), row.length(), small);
    }

    int answer(String packet) {
        tape(bytes(packet));
        return sieve.answer(packet.length());
    }

    /** Gives bytes to a session, however many. */
    int give(int s, String text) {
        int result = -1;
        for (int i = 0; i < text.length() || i == 0; i += 4000) {
            String piece = text.substring(i, Math.min(text.length(), i + 4000));
            tape(bytes(piece));
            result = sieve.give(s, piece.length());
        }
        return result;
    }

    /** The output of a session, which is empty then. */
    String output(int s) {
        int length = sieve.session(s, 2);
        StringBuilder all = new StringBuilder();
        for (int i = 0; i < length; i++) {
            all.append((char) sieve.output(s, i));
        }
        sieve.clear(s);
        return all.toString();
    }

    /** The letters of the replies in a session's output, which is empty then. */
    String letters(int s) {
        String all = output(s);
        StringBuilder letters = new StringBuilder();
        int i = 0;
        while (i + 4 < all.length()) {
            int length = all.charAt(i + 2) << 8 | all.charAt(i + 3);
            letters.append(all.charAt(i + 4));
            i += 4 + length;
        }
        return letters.toString();
    }

    // ---- sessions and messages

    static String greeting(int granted) {
        return packet('O', number(6) + number(granted) + number(0));
    }

    /** A new object whose session 0 is open and got these packets. */
    static Desk in(String packets) {
        Desk desk = new Desk();
        desk.sieve.open(0);
        desk.give(0, packets);
        return desk;
    }

    /** A new object with these lines loaded. */
    static Desk with(String... lines) {
        Desk desk = new Desk();
        for (String line : lines) {
            due("line " + line, desk.line(line), 0);
        }
        due("load of " + String.join(", ", lines), desk.sieve.load() >= 0, true);
        return desk;
    }

    /** Judges a message on session 0, without an address, and with an output that is empty then. */
    Desk judge(String body, String... headers) {
        meet(0, "");
        give(0, message(body, headers));
        sieve.clear(0);
        return this;
    }

    /** Opens a session with everything granted, and a client of this address (or of family U, when it is empty). */
    void meet(int s, String address) {
        sieve.open(s);
        give(s, packet('O', number(6) + number(0x31) + number(0)) + client(address));
        sieve.clear(s);
    }

    static String client(String address) {
        return packet('C', address.isEmpty() ? "host\0U" : "host\0" + "4" + "\0\u0019" + address + "\0");
    }

    /** A message from M to E; headers as name, value, name, value .. */
    static String message(String body, String... headers) {
        StringBuilder all = new StringBuilder(packet('M', "<a@b>\0") + packet('R', "<c@d>\0"));
        for (int i = 0; i + 1 < headers.length; i += 2) {
            all.append(packet('L', headers[i] + "\0" + headers[i + 1] + "\0"));
        }
        all.append(packet('N', ""));
        for (int i = 0; i < body.length(); i += 2000) {
            all.append(packet('B', body.substring(i, Math.min(body.length(), i + 2000))));
        }
        return all.append(packet('E', "")).toString();
    }

    /** Judges a message that leaves this sign, so many times, behind in each row that is used again. */
    void litter(char sign, int times) {
        sieve.clear(0);
        String row = ("" + sign).repeat(times);
        give(0, message(row, "Subject", row, "Content-Type", "text/plain; charset=x"));
        sieve.clear(0);
    }

    /** Judges a message on session 0 of a new object and tells its text; what longer messages left behind must not matter. */
    static String textOf(String body, String... headers) {
        Desk desk = new Desk();
        desk.meet(0, "");
        desk.give(0, message(body, headers));
        String text = desk.text(0);
        for (char sign : LITTER.toCharArray()) {
            desk.litter(sign, body.length() + 40);
            desk.give(0, message(body, headers));
            due("text of " + body + " behind a message of " + sign, desk.text(0), text);
        }
        return text;
    }

    String text(int s) {
        StringBuilder all = new StringBuilder();
        for (int i = 0; sieve.text(s, i) >= 0; i++) {
            all.appendCodePoint(sieve.text(s, i));
        }
        return all.toString();
    }

    String held(int s) {
        StringBuilder all = new StringBuilder();
        for (int k = 0; sieve.held(s, k) >= 0; k++) {
            all.append(k == 0 ? "" : " ").append(sieve.held(s, k));
        }
        return all.toString();
    }

    static long digest(String text) {
        long h = -3750763034362895579L;
        for (byte b : text.getBytes(StandardCharsets.UTF_8)) {
            h = (h ^ (b & 255)) * 1099511628211L;
        }
        return h;
    }
}
