import java.util.ArrayList;
import java.util.Base64;
import java.util.LinkedHashSet;
import java.util.List;
import java.util.Set;

/** Term 2, sentence by sentence: great messages, codings, parts, markup, texts and uris at their bounds. */
public final class Term2Test {
    private static final String TYPE = "Content-Type";
    private static final String CODING = "Content-Transfer-Encoding";
    private static final String BEGUN = Desk.greeting(0x31) + Desk.client("") + Desk.packet('M', "a\0") + Desk.packet('R', "b\0");

    public static void main(String[] args) {
        greatByHeaders();
        greatByHeaderBytes();
        greatByBody();
        unfolding();
        fields();
        latinAndAscii();
        utf8();
        utf8AtTheEnd();
        base64();
        quotedPrintable();
        encodedWords();
        encodedWordsThatAreNone();
        blanksBetweenWords();
        types();
        parameters();
        encodings();
        lines();
        boundaries();
        separators();
        partsWithoutLines();
        partFields();
        partBodies();
        partsInParts();
        atMostTwentyParts();
        leaves();
        comments();
        tags();
        scripts();
        links();
        linksOfOneMessage();
        entities();
        numbers();
        smoothing();
        texts();
        urisOfTheText();
        urisOfLinks();
        atMostTwentyUris();
        longUris();
        hosts();
        cutBodies();
        cutHeaders();
        Desk.end();
    }

    // ---- great messages

    private static String header(String name, String value) {
        return Desk.packet('L', name + "\0" + value + "\0");
    }

    private static void kept(Desk desk, String what, int headers, int body, int great) {
        Desk.due("headers: " + what, desk.sieve.session(0, 5), headers);
        Desk.due("body: " + what, desk.sieve.session(0, 6), body);
        Desk.due("great: " + what, desk.sieve.session(0, 7), great);
    }

    private static void greatByHeaders() {
        Desk.of("With a 41st header it is GREAT (that header and what is behind are not kept; what there was stays)");
        Desk desk = Desk.in(BEGUN);
        for (int i = 1; i <= 40; i++) {
            desk.give(0, header("h", "v"));
            kept(desk, "header " + i, i, 0, 0);
        }
        desk.sieve.clear(0);
        desk.give(0, header("", ""));
        kept(desk, "the 41st", 40, 0, 1);
        Desk.due("it is answered all the same", desk.letters(0), "c");
        desk.give(0, header("h", "v"));
        kept(desk, "the 42nd", 40, 0, 1);
        desk.give(0, Desk.packet('N', "") + Desk.packet('B', "x"));
        kept(desk, "a body behind", 40, 0, 1);
        Desk.due("its reply", desk.letters(0), "ccs");
        desk.give(0, Desk.packet('E', "x"));
        Desk.due("judged", desk.letters(0), "a");
        Desk full = Desk.in(BEGUN + header("h", "v").repeat(40) + Desk.packet('E', "some text"));
        Desk.due("with 40 it is judged", full.text(0), "some text\n");
    }

    private static void greatByHeaderBytes() {
        Desk.of("names and values of more than 4,000 bytes together (as they came, without their 0)");
        int[][] names = {{1000, 3000}, {1, 1999}, {0, 2000}};
        for (int[] row : names) {
            for (int more = -1; more <= 1; more++) {
                // several headers, the last of which makes 3,999, 4,000 or 4,001 bytes
                Desk desk = Desk.in(BEGUN + header("n".repeat(500), "\r\n \t".repeat(125)) + header("n".repeat(row[0] / 2),
                    "v".repeat(1000 - row[0] / 2)));
                desk.give(0, header("", "w".repeat(1000)) + header("", "x".repeat(999 + more)));
                kept(desk, "3,999 and " + more, 4, 0, 0);
                desk.give(0, header("y", ""));
                kept(desk, "3,999 and " + more + " and one", more == 1 ? 4 : 5, 0, more == 1 ? 1 : 0);
                desk.give(0, header("", ""));
                kept(desk, "an empty one behind", more == 1 ? 4 : 6, 0, more == 1 ? 1 : 0);
            }
        }
        Desk desk = Desk.in(BEGUN + header("", "v".repeat(2000)) + header("a", "v".repeat(2000)));
        kept(desk, "4,001 with the second", 1, 0, 1);
        desk.give(0, header("a", "b"));
        kept(desk, "a short one, which would have had room", 1, 0, 1);
        desk = Desk.in(BEGUN + header("a", "b".repeat(1999)) + header("Subject", "c".repeat(1993)) + Desk.packet('E', "text"));
        Desk.due("4,000 are judged", desk.sieve.session(0, 10), 1);
    }

    private static void greatByBody() {
        Desk.of("or a body of more than 6,000 bytes it is GREAT (the bytes of that B or E, all of them, and what is behind them are not kept)");
        for (int more = -1; more <= 1; more++) {
            String start = BEGUN + Desk.packet('N', "") + Desk.packet('B', "x".repeat(2000)).repeat(2);
            Desk desk = Desk.in(start + Desk.packet('B', "y".repeat(2000 + more)));
            kept(desk, "6,000 and " + more + " by B", 0, more > 0 ? 4000 : 6000 + more, more > 0 ? 1 : 0);
            desk.give(0, Desk.packet('B', "z"));
            kept(desk, "6,000 and " + more + " and one", 0, more > 0 ? 4000 : more < 0 ? 6000 : 6000, more >= 0 ? 1 : 0);
            Desk ended = Desk.in(start + Desk.packet('E', "y".repeat(2000 + more)));
            Desk.due("parts of 6,000 and " + more + " by E", ended.sieve.session(0, 10), more > 0 ? 0 : 1);
            Desk.due("chars of 6,000 and " + more + " by E", ended.sieve.session(0, 11), more > 0 ? 0 : 6001 + more);
            Desk.due("indicator of 6,000 and " + more + " by E", ended.sieve.indicator(0), more > 0 ? -1.0 : 0.5);
        }
    }

    // ---- values

    /** Checks the CHARS of a header by an expression, and those of a subject by its tokens, too. */
    private static void chars(String value, String want) {
        StringBuilder expression = new StringBuilder();
        want.codePoints().forEach(c -> expression.append(c > 126
            || c < 9 ? "[^ -~]" : c == 9 ? "\\t" : c == 10 ? "\\n" : Character.isLetterOrDigit(c) ? "" + (char) c : "\\" + (char) c));
        Desk desk = Desk.with("header A Subject /^" + expression.toString().replace("\\/", ".") + "$/");
        desk.judge("", "subject", value);
        Desk.due("CHARS of " + value, desk.held(0), "0");
        for (char sign : Desk.LITTER.toCharArray()) {
            desk.litter(sign, value.length() + 20);
            desk.judge("", "subject", value);
            Desk.due("CHARS of " + value + " behind a message of " + sign, desk.held(0), "0");
        }
        Set<String> words = new LinkedHashSet<>();
        for (String word : want.split("[\\x00-#%&(-,./:-@\\[-`{-\\x7f]+")) {
            int length = word.codePointCount(0, word.length());
            if (length >= 3 && length <= 12) {
                words.add("s:" + word.toLowerCase(java.util.Locale.ROOT));
            }
        }
        Desk.due("tokens of " + value, desk.sieve.learn(0, true), words.size());
        for (String word : words) {
            Desk.due("token " + word + " of " + value, desk.sieve.entry(Desk.digest(word), 0), 1);
        }
    }

    private static void unfolding() {
        Desk.of("A VALUE is UNFOLDED: each 13 and 10 is left out; then blanks at both ends");
        chars("", "");
        chars(" ", "");
        chars("\r\n", "");
        chars(" \t\r\n \t", "");
        chars("a", "a");
        chars(" \ta\t ", "a");
        chars("\r\n a b\r\n", "a b");
        chars("a\rb\nc", "abc");
        chars("a\r\n\tb", "a\tb");
        chars("a \r\n b", "a  b");
        chars("a\u00a0", "a\u00a0");
        chars("\u000ba\u000c", "\u000ba\u000c".replace('\u000b', '\u0001').replace('\u000c', '\u0001'));
    }

    private static void fields() {
        Desk.of("A FIELD is a header's name, SMALL; of several with a name the first one counts, where one is wanted");
        Desk.due("the first type", Desk.textOf("<b>x", TYPE, "text/html", TYPE, "text/plain"), "x\n");
        Desk.due("the other first", Desk.textOf("<b>x", TYPE, "text/plain", TYPE, "text/html"), "<b>x\n");
        Desk.due("letters of any size", Desk.textOf("<b>x", "cONTENT-tYPE", "text/html"), "x\n");
        Desk.due("the first coding", Desk.textOf("eHl6", CODING, "base64", CODING, "7bit"), "xyz\n");
        Desk.due("the first is none", Desk.textOf("eHl6", CODING, "", CODING, "base64"), "eHl6\n");
        Desk.due("a name with a blank is another", Desk.textOf("<b>x", TYPE + " ", "text/html"), "<b>x\n");
        Desk.due("an empty first one", Desk.textOf("<b>x", TYPE, "", TYPE, "text/html"), "<b>x\n");
    }

    // ---- charsets

    private static void plain(String charset, String want, String body) {
        Desk.due(charset + " of " + body, Desk.textOf(body, TYPE, "text/plain; charset=" + charset), want + "\n");
    }

    private static void latinAndAscii() {
        Desk.of("iso-8859-1: each byte is its char. us-ascii: bytes above 127 are 65533");
        plain("iso-8859-1", "\u007f\u0080\u00ff\u0001~", "\u007f\u0080\u00ff\u0001~");
        plain("us-ascii", "\u007f\ufffd\ufffd\u0001~", "\u007f\u0080\u00ff\u0001~");
        plain("US-ASCII", "\ufffd", "\u00a0");
        Desk.of("by the parameter charset (SMALL; when it is none of the three: iso-8859-1; without it us-ascii)");
        plain("Iso-8859-1", "\u00e9", "\u00e9");
        plain("utf8", "\u00c3\u00a9", "\u00c3\u00a9");
        plain("utf-8x", "\u00c3\u00a9", "\u00c3\u00a9");
        plain("utf-", "\u00c3\u00a9", "\u00c3\u00a9");
        plain("\" utf-8\"", "\u00c3\u00a9", "\u00c3\u00a9");
        plain("ascii", "\u00e9", "\u00e9");
        Desk.due("without it", Desk.textOf("\u00e9", TYPE, "text/plain"), "\ufffd\n");
        Desk.due("without a type", Desk.textOf("\u00e9"), "\ufffd\n");
        Desk.due("of HTML, too", Desk.textOf("\u00c3\u00a9", TYPE, "text/html; charset=utf-8"), "\u00e9\n");
        Desk.due("of HTML without it", Desk.textOf("\u00c3\u00a9", TYPE, "text/html"), "\ufffd\ufffd\n");
    }

    /** What the document's own words make of bytes by utf-8. */
    private static String utf8Of(String bytes) {
        StringBuilder all = new StringBuilder();
        for (int i = 0; i < bytes.length(); i++) {
            int b = bytes.charAt(i);
            int more = b >= 194 && b <= 223 ? 1 : b >= 224 && b <= 239 ? 2 : b >= 240 && b <= 244 ? 3 : 0;
            int c = b < 128 ? b : 65533;
            boolean whole = more > 0 && i + more < bytes.length();
            int joined = b & (more == 1 ? 31 : more == 2 ? 15 : 7);
            for (int k = 1; k <= more && whole; k++) {
                whole = bytes.charAt(i + k) >= 128 && bytes.charAt(i + k) <= 191;
                joined = joined * 64 + (bytes.charAt(i + k) & 63);
            }
            if (whole && !(more == 2 && joined < 2048) && !(more == 3 && joined < 65536) && !(joined >= 55296 && joined <= 57343)
                && joined <= 1114111) {
                c = joined;
                i += more;
            }
            all.appendCodePoint(c);
        }
        return all.toString();
    }

    private static void utf8() {
        Desk.of("utf-8: 194 to 223 with one, 224 to 239 with two, 240 to 244 with three bytes 128 to 191 behind it");
        int[] firsts = {127, 128, 191, 192, 193, 194, 195, 223, 224, 225, 237, 238, 239, 240, 241, 243, 244, 245, 247, 248, 255};
        int[] seconds = {127, 128, 143, 144, 159, 160, 191, 192};
        int[] thirds = {65, 127, 128, 191, 192};
        for (int a : firsts) {
            for (int b : seconds) {
                StringBuilder all = new StringBuilder(".");
                for (int c : thirds) {
                    for (int d : thirds) {
                        all.append((char) a).append((char) b).append((char) c).append((char) d).append('.');
                    }
                }
                // 160, within the text, is smoothed
                plain("utf-8", utf8Of(all.toString()).replace('\u00a0', ' '), all.toString());
            }
        }
        Desk.of("if that is not below 2,048 (of three bytes), 65,536 (of four), nor 55,296 to 57,343, nor above 1,114,111");
        plain("utf-8", "\u0080\u07ff", "\u00c2\u0080\u00df\u00bf");
        plain("utf-8", "\ufffd\ufffd\ufffd", "\u00e0\u009f\u00bf");
        plain("utf-8", "\u0800", "\u00e0\u00a0\u0080");
        plain("utf-8", "\uffff", "\u00ef\u00bf\u00bf");
        plain("utf-8", "\ufffd\ufffd\ufffd\ufffd", "\u00f0\u008f\u00bf\u00bf");
        plain("utf-8", new String(Character.toChars(65536)), "\u00f0\u0090\u0080\u0080");
        plain("utf-8", "\ud7ff", "\u00ed\u009f\u00bf");
        plain("utf-8", "\ufffd\ufffd\ufffd", "\u00ed\u00a0\u0080");
        plain("utf-8", "\ufffd\ufffd\ufffd", "\u00ed\u00bf\u00bf");
        plain("utf-8", "\ue000", "\u00ee\u0080\u0080");
        plain("utf-8", new String(Character.toChars(1114111)), "\u00f4\u008f\u00bf\u00bf");
        plain("utf-8", "\ufffd\ufffd\ufffd\ufffd", "\u00f4\u0090\u0080\u0080");
    }

    private static void utf8AtTheEnd() {
        Desk.of("any other byte is 65533, and it goes on with the next byte");
        String[] whole = {"\u00c3\u00a9", "\u00e2\u0082\u00ac", "\u00f0\u009f\u0098\u0080"};
        for (String bytes : whole) {
            plain("utf-8", utf8Of(bytes), bytes);
            for (int cut = 1; cut < bytes.length(); cut++) {
                plain("utf-8", "\ufffd".repeat(cut), bytes.substring(0, cut));
                plain("utf-8", "\ufffd".repeat(cut) + "a", bytes.substring(0, cut) + "a");
                plain("utf-8", "\ufffd".repeat(cut) + utf8Of(bytes), bytes.substring(0, cut) + bytes);
            }
        }
        plain("utf-8", "\ufffd\ufffd\u00e9", "\u00c0\u00c1\u00c3\u00a9");
    }

    // ---- codings

    private static void coded(String coding, String want, String body) {
        Desk.due(coding + " of " + body, Desk.textOf(body, CODING, coding, TYPE, "text/plain; charset=iso-8859-1"), want + "\n");
    }

    private static void base64() {
        Desk.of("BASE64: A to Z, a to z, 0 to 9, + and / are 0 to 63");
        StringBuilder bytes = new StringBuilder();
        for (int i = 0; i < 64; i++) {
            // each sign in each place, in bytes that are no blanks and no line's ends
            bytes.append((char) (192 + i)).append((char) (192 + i * 5 % 64)).append((char) (192 + i * 11 % 64)).append((char) (192 + i * 3 % 64));
        }
        coded("base64", bytes.toString(), Base64.getEncoder().encodeToString(Desk.bytes(bytes.toString())));
        Desk.of("each four make three bytes, two at the end one byte, three two; one nothing");
        coded("base64", "", "");
        coded("base64", "", "Q");
        coded("base64", "A", "QU");
        coded("base64", "AB", "QUI");
        coded("base64", "ABC", "QUJD");
        coded("base64", "ABC", "QUJDR");
        coded("base64", "ABCD", "QUJDRE");
        coded("base64", "A", "QV");
        coded("base64", "AB", "QUL");
        Desk.of("all up to the first = (or the end) that are none of these are passed over");
        coded("base64", "ABC", "Q U\r\nJ-_*D");
        coded("base64", "ABC", "\u00c3QUJD.");
        coded("base64", "A", "QU=JD");
        coded("base64", "A", "QU==QUJD");
        coded("base64", "", "=QUJD");
        coded("base64", "", "Q=UJD");
        for (int c = 1; c < 256; c++) {
            if (c != '+' && c != '/' && (c > 127 || !Character.isLetterOrDigit(c))) {
                coded("base64", "", ("" + (char) c).repeat(4));
                coded("base64", c == '=' ? "" : "ABC", (char) c + "QUJD");
            }
        }
        coded("base64", "ABC", "QUJD=");
        coded("base64", "\u00ff\u00ff\u00ff", "////");
    }

    private static void quotedPrintable() {
        Desk.of("QUOTED-PRINTABLE: = and two digits (0 to 9, a to f, A to F) are that byte");
        for (int b = 0; b < 32; b++) {
            if (b != 9 && b != 10 && b != 13) {
                coded("quoted-printable", "." + (char) b + ".", String.format(".=%02x.", b));
            }
        }
        for (int b = 33; b < 256; b++) {
            coded("quoted-printable", "." + (b == 160 ? ' ' : (char) b) + ".", String.format(".=%02X.", b));
        }
        coded("quoted-printable", "\u00fa\u00af\u0090J", "=fa=aF=90=4a");
        Desk.of("other = are themselves");
        for (String none : new String[] {"=4", "=4G", "=G4", "=/0", "=:0", "=@0", "=`0", "=g0", "=0/", "=0:", "=0@", "=0`", "=0g", "==", "=x", "= x",
            "= =", "=\u00c10"}) {
            coded("quoted-printable", "a" + none + ".", "a" + none + ".");
        }
        coded("quoted-printable", "a=A", "a==41");
        coded("quoted-printable", "a=4", "a=4");
        coded("quoted-printable", "a=b", "a=\rb");
        coded("quoted-printable", "a=", "a=\r");
        coded("quoted-printable", "a=", "a= \r");
        Desk.of("= and blanks (perhaps none) and a line's end (13 10, or 10) or the end are left out");
        for (String blanks : new String[] {"", " ", "\t", " \t "}) {
            for (String end : new String[] {"\r\n", "\n"}) {
                coded("quoted-printable", "ab", "a=" + blanks + end + "b");
                coded("quoted-printable", "a", "a=" + blanks + end);
            }
            coded("quoted-printable", "a", "a=" + blanks);
        }
        coded("quoted-printable", "a\nb", "a=\n\nb");
        Desk.of("blanks ahead of a line's end or the end are left out");
        // the raw text shows them, the text would leave them out in any case
        String[][] rows = {{"a \\n", "a \r\nb", ""}, {"a\\t", "a\t\nb", ""}, {"a \\n", "a  ", ""}, {"a \\n", "a =\nb", ""}, {"a b", "a =\nb", "0"},
            {"a \\n", "a=20\nb", "0"},
            {"a b", "a b", "0"}, {"a \\t b", "a \t b", "0"}, {"a  ", "a  \rb", "0"}, {"a\\nb", "a \t \nb", "0"}, {"a\\n$", "a \t ", "0"}, {"^\\n",
                " \n", "0"}, {"a $", "a=20", "0"}};
        for (String[] row : rows) {
            Desk desk = Desk.with("raw A /" + row[0] + "/").judge(row[1], CODING, "quoted-printable");
            Desk.due("raw " + row[0] + " in " + row[1], desk.held(0), row[2]);
        }
    }

    private static void encodings() {
        Desk.of("THE ENCODING: SMALL: base64, quoted-printable; any other or none: the bytes as they are");
        for (String coding : new String[] {"base64", "BASE64", " Base64\t", "bASE\r\n64"}) {
            coded(coding, "xyz", "eHl6");
        }
        for (String coding : new String[] {"", "base6", "base644", "base 64", "base64;", "\"base64\"", "7bit", "quoted", "x"}) {
            coded(coding, "eHl6=41", "eHl6=41");
        }
        coded("Quoted-PRINTABLE", "eHl6A", "eHl6=41");
    }

    // ---- encoded words

    private static void encodedWords() {
        Desk.of("ENCODED WORDS: =? and a charset's name and ? and B, b, Q or q, and ?, and a text of 33 to 126 but ? (perhaps none), and ?=");
        chars("=?utf-8?B?w6nDqcOp?=", "\u00e9\u00e9\u00e9");
        chars("=?UTF-8?b?w6nDqcOp?=", "\u00e9\u00e9\u00e9");
        chars("=?iso-8859-1?Q?=e9=E9t?=", "\u00e9\u00e9t");
        chars("=?Iso-8859-1?q?ab=E9?=", "ab\u00e9");
        chars("=?us-ascii?q?=e9=80=7f?=", "\ufffd\ufffd\u007f");
        chars("=?us-ascii?Q??=", "");
        chars("=?us-ascii?B??=", "");
        chars("=?us-ascii?Q?!\"#$%&'()*+,-.:;<>@[\\]^`{|}~?=", "!\"#$%&'()*+,-.:;<>@[\\]^`{|}~");
        Desk.of("of B the BASE64, of Q (_ is 32; = and two digits that byte; others themselves) the bytes");
        chars("=?us-ascii?Q?a_b=5F=20=3d=3F?=", "a b_ =?");
        chars("=?us-ascii?Q?ab=00=01c?=", "ab\0\u0001c");
        chars("=?us-ascii?B?YWJj?=", "abc");
        chars("=?us-ascii?B?YWI?=", "ab");
        chars("=?us-ascii?B?YW?=", "a");
        chars("=?us-ascii?B?Y?=", "");
        chars("=?us-ascii?B?YW==Jj?=", "a");
        chars("=?us-ascii?B?Y!W_J-j?=", "abc");
        chars("=?us-ascii?B?=?=", "");
        chars("=?utf-8?Q?=f0=9f=98=80xy?=", "\ud83d\ude00xy");
        chars("=?utf-8?Q?=f0=9f=98?= =?utf-8?Q?=80xy?=", "\ufffd\ufffd\ufffd\ufffdxy");
    }

    private static void encodedWordsThatAreNone() {
        Desk.of("(what is none stays as it is, and it goes on with the next char); a = without two digits: it is no encoded word");
        String[] none = {"=?us-ascii?Q?a=?=", "=?us-ascii?Q?a=4?=", "=?us-ascii?Q?=4g?=", "=?us-ascii?Q?=g4?=", "=?us-ascii?Q?==41?=", "=??Q?a?=",
            "=?us-ascii?X?a?=", "=?us-ascii??a?=", "=?us-ascii?QQ?a?=", "=?us-ascii?QX?=", "=?us-ascii?Qab?=", "=?us-ascii*Q?a?=", "=?us-ascii Q?a?=",
            "=.us-ascii?Q?a?=", "==us-ascii?Q?a?=",
            "=?us-ascii?Q?a b?=", "=?us-ascii?Q?a\tb?=", "=?us-ascii?Q?a\u007fb?=", "=?us-ascii?Q?a\u00e9b?=", "=?us-ascii?Q?a?b?=",
                "=?us.ascii?Q?a?=", "=?us ascii?Q?a?=", "=?us*ascii?Q?a?=", "=?us-ascii?Q?a?",
            "=?us-ascii?Q?a", "=?us-ascii?Q?", "=?us-ascii?Q", "=?us-ascii?", "=?us-ascii", "=?", "=", "? =", "=us-ascii?Q?a?=", "?us-ascii?Q?a?=",
                "=?us-ascii?Q?a=?", "=?us-ascii?Q?a??="};
        for (String value : none) {
            chars(value, value);
            chars(value + " =?us-ascii?Q?b?=", value + " b");
            chars("=?us-ascii?Q?b?= " + value, "b " + value);
        }
        chars("=?us-ascii?Q?a\u001fb?=", "=?us-ascii?Q?a\u0001b?=");
        chars("=?koi8-r?Q?a?= =?us-ascii?Q?b?=", "=?koi8-r?Q?a?= b");
        chars("=?a_1-Z?Q?a?=", "=?a_1-Z?Q?a?=");
        chars("==?us-ascii?Q?a?=", "=a");
        chars("=?=?us-ascii?Q?a?=", "=?a");
        chars("=?x?Q?=?us-ascii?Q?a?=", "=?x?Q?a");
        chars("=?us-ascii?Q?=?us-ascii?Q?a?=", "=?us-ascii?Q?a");
        chars("x=?us-ascii?Q?a?=y", "xay");
        chars("=?us-ascii?Q?a?=?=", "a?=");
        chars("=?us-ascii?Q?a\r\n?=", "a");
    }

    private static void blanksBetweenWords() {
        Desk.of("Blanks alone between two encoded words are left out");
        String a = "=?us-ascii?Q?a?=";
        String b = "=?us-ascii?Q?b?=";
        String none = "=?us-ascii?Q??=";
        chars(a + b, "ab");
        chars(a + " " + b, "ab");
        chars(a + " \t  " + b, "ab");
        chars(a + "\r\n " + b, "ab");
        chars(a + " " + b + " " + a, "aba");
        chars(a + " x " + b, "a x b");
        chars(a + " x" + b, "a xb");
        chars("x " + a + " " + b + " y", "x ab y");
        chars(a + " " + none + " " + b, "ab");
        chars(none + " " + none, "");
        chars("x " + none + " y", "x  y");
        chars(a + " \u00a0 " + b, "a \u00a0 b");
        chars("=?us-ascii?Q?_a_?= =?us-ascii?Q?_b_?=", " a  b ");
        chars(a + "  =?us-ascii?Q?b=?= " + b, "a  =?us-ascii?Q?b=?= b");
    }

    // ---- content-types

    /** What a content-type makes of a body: by its text it is plain (p), HTML (h) or an attachment (-). */
    private static void kind(String type, String want) {
        String text = Desk.textOf("<b>x", TYPE, type);
        Desk.due("kind of " + type, text.equals("<b>x\n") ? "p" : text.equals("x\n") ? "h" : text.isEmpty() ? "-" : text, want);
    }

    private static void types() {
        Desk.of("a TYPE, /, a SUBTYPE (of each: letters, digits, + - . _, one or more; SMALL)");
        String[] html = {"text/html", "TEXT/HTML", "Text/Html;", "text/html ;x", "text/html x", "text/html/x", "text/html(x)", " \ttext/html\t",
            "text/\r\nhtml", "text/html\u00e9", "text/html=x", "text/html,x"};
        for (String type : html) {
            kind(type, "h");
        }
        String[] other = {"text/htmlx", "text/htm", "text/html+x", "text/html-x", "text/html.x", "text/html_x", "text/html1", "text/xhtml",
            "texts/html", "tex/html", "x.y_z+1-/a", "1/2", "text/x", "image/plain", "x/y; a=b", "multipart/mixed", "message/rfc822",
            "+/-", "./_", "textplain/text"};
        for (String type : other) {
            kind(type, "-");
        }
        Desk.of("A field that does not begin with a type, /, subtype, or none: text, plain");
        String[] plain = {"", "text", "html", "/", "text/", "/html", "text /html", "text/ html", ";", "te xt/html", "text;html", "text\\html",
            "image/", "/plain", "*/*", "image/*", "im*ge/png", "\"text/html\"", "=text/html", "text//html", "text/;charset=utf-8"};
        for (String type : plain) {
            kind(type, "p");
        }
        Desk.due("none", Desk.textOf("<b>x"), "<b>x\n");
        Desk.due("of such a field no parameter counts", Desk.textOf("\u00e9", TYPE, "text; charset=iso-8859-1"), "\ufffd\n");
    }

    private static void parameter(String rest, boolean utf) {
        String text = Desk.textOf("\u00c3\u00a9", TYPE, "text/plain" + rest);
        Desk.due("charset of text/plain" + rest, text.equals("\u00e9\n") ? "utf-8" : text.equals("\u00c3\u00a9\n") ? "latin" : "ascii",
            utf ? "utf-8" : "ascii");
    }

    private static void parameters() {
        Desk.of("each behind blanks (perhaps none) and ; and blanks (perhaps none), PARAMETERS: a name (likewise), =, and a value");
        String[] right = {";charset=utf-8", " ; charset=utf-8", "\t;\tcharset=utf-8", " \t ; \t charset=utf-8", "; CharSet=UTF-8",
            "; a=b;charset=utf-8", "; a=b ; charset=utf-8", "; a+b-c.d_9=e; charset=utf-8", "; a=b; c=\"d\"; charset=utf-8",
            "; charset=utf-8;", "; charset=utf-8; ", "; charset=utf-8 x", "; charset=utf-8;;", "; charset=utf-8\u007f", "; charset=utf-8\u00e9"};
        for (String rest : right) {
            parameter(rest, true);
        }
        String[] wrong = {" charset=utf-8", ", charset=utf-8", ";; charset=utf-8", "; ; charset=utf-8", "; charset", "; charset=", "; =utf-8",
            "; =x; charset=utf-8", ";=x;charset=utf-8", "; charset =utf-8", "; charset= utf-8", "; a; charset=utf-8", "; a=; charset=utf-8",
            "; a=b c; charset=utf-8", "; a*=b; charset=utf-8",
            "; \u00e9=b; charset=utf-8", "x; charset=utf-8", "; charsets=utf-8", "; harset=utf-8", "/x; charset=utf-8", "; a=\u00e9; charset=utf-8"};
        for (String rest : wrong) {
            parameter(rest, false);
        }
        Desk.of("a value: signs 33 to 126 but ; and \", one or more; or \" and any but \" and \\ (a \\ and any sign is that sign) and \"");
        String[] values = {"; a=!#$%&'()*+,/:<=>?@[\\]^`{|}~; charset=utf-8", "; a=\"\"; charset=utf-8", "; a=\" \t\u00e9;=\"; charset=utf-8",
            "; a=\"\\\"\"; charset=utf-8", "; a=\"\\\\\"; charset=utf-8", "; charset=\"utf-8\"", "; charset=\"\\u\\t\\f\\-\\8\"",
            "; charset=\"utf-8\"x",
            "; charset=utf-8\"x", "; charset=utf-8\"\"", "; a=\\\\; charset=utf-8"};
        for (String rest : values) {
            parameter(rest, true);
        }
        String[] noValues = {"; a=\"; charset=utf-8", "; charset=\"utf-8", "; charset=\"utf-8\\\"", "; charset=\"utf-8\\", "; a=b\"; charset=utf-8",
            "; a=\"b\"c; charset=utf-8", "; a=;charset=utf-8", "; charset=\""};
        for (String rest : noValues) {
            parameter(rest, false);
        }
        Desk.of("What is behind the last that is so is not looked at; of several parameters with a name (SMALL) the first one counts");
        parameter("; charset=utf-8; charset=us-ascii", true);
        parameter("; CHARSET=utf-8; charset=us-ascii", true);
        parameter("; charset=us-ascii; charset=utf-8", false);
        parameter("; charset=us-ascii; CHARSET=utf-8", false);
        parameter("; charset=\"utf-8; charset=utf-8", false);
        Desk.due("of two the first, also where it is none of the three", Desk.textOf("\u00e9", TYPE, "text/plain; charset=x; charset=us-ascii"),
            "\u00e9\n");
        Desk.due("an empty one is the first", Desk.textOf("\u00e9", TYPE, "text/plain; charset=\"\"; charset=us-ascii"), "\u00e9\n");
    }

    // ---- parts

    private static void parted(String what, String type, String body, int parts, String text) {
        Desk desk = new Desk().judge(body, TYPE, type);
        Desk.due("parts: " + what, desk.sieve.session(0, 10), parts);
        Desk.due("text: " + what, desk.text(0), text);
        for (char sign : Desk.LITTER.toCharArray()) {
            desk.litter(sign, body.length() + 40);
            desk.judge(body, TYPE, type);
            Desk.due("parts behind a message of " + sign + ": " + what, desk.sieve.session(0, 10), parts);
            Desk.due("text behind a message of " + sign + ": " + what, desk.text(0), text);
        }
    }

    private static void lines() {
        Desk.of("LINES of bytes end with 13 10 or 10 (or the end)");
        String type = "multipart/x; boundary=q";
        for (String end : new String[] {"\r\n", "\n"}) {
            parted("ends " + end.length(), type, "--q" + end + end + "one" + end + "--q" + end + end + "two" + end + "--q--" + end, 3, "one\ntwo\n");
            parted("the end instead " + end.length(), type, "--q" + end + end + "one" + end + "--q--", 2, "one\n");
        }
        parted("13 alone ends no line", type, "--q\r--q\n--q\n\nx", 2, "x\n");
        parted("a separator with 13 at the end of all is none", type, "--q\n\none\n--q\r", 2, "one\n--q\n");
        parted("two 13 are one too many", type, "--q\r\r\n\n--q\n\nx", 2, "x\n");
        parted("an empty line of 13 alone is none", type, "--q\nA: b\n\r\rx", 2, "\n");
        Desk desk = Desk.with("raw A /^one[^ -~]\\n$/").judge("--q\n\none\r\r\n--q--", TYPE, type);
        Desk.due("of 13 13 10 the last two are the line's end", desk.held(0), "0");
    }

    private static void boundaries() {
        Desk.of("of type multipart with a parameter boundary of 1 to 70 bytes is PARTED");
        for (int length : new int[] {0, 1, 2, 69, 70, 71, 72, 200}) {
            String b = "z".repeat(length);
            boolean right = length >= 1 && length <= 70;
            parted("a boundary of " + length, "multipart/x; boundary=\"" + b + "\"", "--" + b + "\n\nx\n--" + b + "--", right ? 2 : 1,
                right ? "x\n" : "");
        }
        parted("without one", "multipart/x", "--\n\nx\n----", 1, "");
        parted("of another type", "multiparts/x; boundary=q", "--q\n\nx", 1, "");
        parted("of any subtype", "MULTIPART/1; boundary=q", "--q\n\nx", 2, "x\n");
        parted("of text", "text/plain; boundary=q", "--q\n\nx", 1, "--q\nx\n");
        parted("the first of two", "multipart/x; boundary=q; boundary=r", "--r\n\nx\n--q\n\ny", 2, "y\n");
        parted("the first of two is too long", "multipart/x; boundary=" + "q".repeat(71) + "; boundary=r", "--r\n\nx", 1, "");
        parted("letters are not made small", "multipart/x; boundary=Q", "--q\n\nx\n--Q\n\ny", 2, "y\n");
        parted("any bytes", "multipart/x; boundary=\"\u00e9 \\\"\"", "--\u00e9 \"\n\nx", 2, "x\n");
        parted("with - at its beginning", "multipart/x; boundary=--", "----\n\nx\n------", 2, "x\n");
    }

    private static void separators() {
        Desk.of("a line is a SEPARATOR when it is -- and the boundary and blanks (perhaps none), and the LAST one when it is these with -- behind the boundary");
        String type = "multipart/x; boundary=q";
        for (String blanks : new String[] {"", " ", "\t", " \t "}) {
            parted("blanks behind", type, "--q" + blanks + "\n\none\n--q" + blanks + "\n\ntwo\n--q--" + blanks + "\nout", 3, "one\ntwo\n");
        }
        for (String none : new String[] {"x-q", "-xq", "xxq", "+-q", "-+q", " --q", "-q", "--", "--Q", "--qx", "--q x", "--q-", "--q-x", "--q- -",
            "--q --", "--q--x", "--q---", "--q-- x", "---q", "q", "--q\u000b", "--q--\u00a0"}) {
            Desk desk = new Desk().judge("--q\n\none\n" + none + "\ntwo\n--q--\nout", TYPE, type);
            Desk.due("no separator: " + none, desk.sieve.session(0, 10), 2);
            Desk.due("it stays: " + none, desk.text(0).endsWith("two\n"), true);
        }
        Desk.of("what is ahead of the first separator and behind the last one is left out");
        parted("ahead", type, "out\n\nout\n--q\n\none\n", 2, "one\n");
        parted("an empty line ahead", type, "\n--q\n\none\n", 2, "one\n");
        parted("an empty line of 13 10 ahead", type, "\r\n\r\n--q\n\none\n", 2, "one\n");
        parted("behind", type, "--q\n\none\n--q--\n--q\n\nout\n--q--\n", 2, "one\n");
        parted("the last one first", type, "--q--\n--q\n\nout", 1, "");
        parted("none at all", type, "out\nout", 1, "");
        parted("no bytes", type, "", 1, "");
        Desk.of("between two (or a separator and the end) there is a part each, the line's end ahead of a separator not being of it");
        parted("to the end", type, "--q\n\none\n--q\n\ntwo", 3, "one\ntwo\n");
        parted("to the end, with a line's end", type, "--q\n\none\n--q\n\ntwo\n", 3, "one\ntwo\n");
        String[][] rows = {{"--q\n\na\n--q--", "^a\\n$"}, {"--q\n\na\n\n--q--", "^a\\n\\n$"}, {"--q\n\na\r\n--q--", "^a\\n$"},
            {"--q\n\na\r\n\r\n--q--", "^a[^ -~]\\n\\n$"}, {"--q\n\na\n", "^a\\n\\n$"}, {"--q\n\na", "^a\\n$"}, {"--q\n\n\n--q--", "^\\n$"},
            {"--q\n\n\n\n--q--", "^\\n\\n$"}};
        for (String[] row : rows) {
            Desk.due("raw " + row[1] + " of " + row[0], Desk.with("raw A /" + row[1] + "/", "count B lines").judge(row[0], TYPE,
                type).held(0).startsWith("0"), true);
        }
    }

    private static void partsWithoutLines() {
        Desk.of("(a part of no line at all has no bytes)");
        String type = "multipart/x; boundary=q";
        parted("two separators one behind the other", type, "--q\n--q\n--q--", 3, "\n\n");
        parted("a separator at the end", type, "--q", 2, "\n");
        parted("with its line's end", type, "--q\n", 2, "\n");
        parted("with blanks", type, "--q ", 2, "\n");
        Desk.due("the raw text has a 10 for it", Desk.with("raw A /^\\n\\n$/").judge("--q\r\n--q\r\n--q--", TYPE, type).held(0), "0");
        parted("an empty line alone", type, "--q\n\n--q--", 2, "\n");
    }

    /** Whether a part with these lines is HTML. */
    private static void html(String what, boolean want, String... fields) {
        Desk desk = new Desk().judge("--q\n" + String.join("\n", fields) + "\n\n<b>x\n--q--", TYPE, "multipart/x; boundary=q");
        Desk.due(what, desk.text(0), want ? "x\n" : "<b>x\n");
    }

    private static void partFields() {
        Desk.of("a line that begins with a blank goes on with the one before, the first one is a line by itself");
        html("one line", true, TYPE + ": text/html");
        html("folded", true, TYPE + ":", " text/html");
        html("folded by 9", true, TYPE + ":", "\ttext/html;", "\ta=b", " ;c=d");
        parted("the blank stays", "multipart/x; boundary=q", "--q\n" + TYPE + ": text/ht\n ml\n\n<b>x\n--q--", 2, "");
        html("of the one before", false, "A: b", " " + TYPE + ": text/html");
        html("the first one by itself", false, " " + TYPE + ": text/html");
        html("behind a first one with a blank", true, " A: b", TYPE + ": text/html");
        html("of blanks alone, not empty", true, TYPE + ": text/html;", " ", " a=b");
        String folded = "--q\n" + TYPE + ": multipart/x; boundary=\"r\n \n s\"\n\n--r  s\n\ntwo blanks\n--r s\n\none blank\n--q--";
        parted("a line of one blank is one blank", "multipart/x; boundary=q", folded, 3, "two blanks\n--r s\none blank\n");
        Desk.of("a line without : or with nothing ahead of it is left out");
        html("without :", true, "junk", TYPE + ": text/html");
        html("the name alone", true, TYPE, TYPE + ": text/html");
        html("the name alone and blanks", true, TYPE + " ", TYPE + ": text/html");
        html("nothing ahead of it", true, ":" + TYPE + ": text/plain", TYPE + ": text/html");
        html("alone", false, TYPE + " text/html");
        html("none at all", false, "junk");
        Desk.of("the name is what is ahead of the first :, blanks at its end left out (of blanks alone the empty name), the value the rest, UNFOLDED");
        html("blanks ahead of :", true, TYPE + " \t : text/html");
        html("a second :", false, TYPE + ":: text/html");
        html("blanks round the value", true, TYPE + ":\t text/html \t");
        html("blanks alone ahead", true, " : text/plain", TYPE + ": text/html");
        html("letters of any size", true, "cONTENT-tYPE: text/html");
        html("blanks within a name", false, "Content -Type: text/html");
        html("the first of two", true, TYPE + ": text/html", TYPE + ": text/plain");
        html("13 within a value", true, TYPE + ": text\r/html");
    }

    private static void partBodies() {
        Desk.of("its lines up to the first empty one; its body is what is behind that line (nothing, when there is none such)");
        String type = "multipart/x; boundary=q";
        parted("the first empty one", type, "--q\nA: b\n\none\n\ntwo\n--q--", 2, "one\ntwo\n");
        parted("at once", type, "--q\n\n" + TYPE + ": text/html\n\n<b>\n--q--", 2, TYPE + ": text/html\n<b>\n");
        parted("none such", type, "--q\nA: b\nC: d\n--q--", 2, "\n");
        parted("none such, HTML", type, "--q\n" + TYPE + ": text/html\n--q--", 2, "\n");
        parted("none such, an attachment", type, "--q\n" + TYPE + ": a/b\n--q--", 2, "");
        parted("at the end", type, "--q\nA: b\n\n", 2, "\n");
        parted("of 13 10", type, "--q\r\nA: b\r\n\r\none\r\n--q--", 2, "one\n");
        parted("a line of a blank is not empty", type, "--q\nA: b\n \none\n\ntwo\n--q--", 2, "two\n");
        parted("coded", type, "--q\n" + CODING + ": base64\n\neHl6\n--q\n" + CODING + ": quoted-printable\n\na=\nb=41\n--q--", 3, "xyz\nabA\n");
    }

    private static String nest(int depth, int deepest) {
        if (depth == deepest) {
            return "\ndeep\n";
        }
        return TYPE + ": multipart/x; boundary=b" + depth + "\n\n--b" + depth + "\n" + nest(depth + 1, deepest) + "--b" + depth + "--\n";
    }

    private static void partsInParts() {
        Desk.of("that lies in at most 3 others, is PARTED");
        for (int deepest = 1; deepest <= 6; deepest++) {
            // part 0 is parted by b0, in it lies one that is parted by b1, and so on
            Desk desk = new Desk().judge(nest(0, deepest).substring(TYPE.length() + 2).replaceFirst("^[^\n]*\n\n", ""), TYPE,
                "multipart/x; boundary=b0");
            Desk.due("parts " + deepest + " deep", desk.sieve.session(0, 10), Math.min(deepest, 4) + 1);
            Desk.due("text " + deepest + " deep", desk.text(0), deepest <= 4 ? "deep\n" : "");
        }
        Desk.of("(by its own lines, whatever is in its parts)");
        parted("the outer one ends the inner one", "multipart/x; boundary=a", "--a\n" + TYPE
            + ": multipart/x; boundary=i\n\n--i\n\none\n--a\n\ntwo\n--i\n\nthree\n--a--", 4, "one\ntwo\n--i\nthree\n");
        parted("the same boundary", "multipart/x; boundary=a", "--a\n" + TYPE + ": multipart/x; boundary=a\n\n--a\n\none\n--a--\nout", 3, "one\n");
        parted("the outer last one within the inner one", "multipart/x; boundary=a", "--a\n" + TYPE
            + ": multipart/x; boundary=i\n\n--i\n\none\n--a--\n--i\n\ntwo", 3, "one\n");
    }

    private static void atMostTwentyParts() {
        Desk.of("Parts are numbered as they begin, a part ahead of those in it; there are at most 20 (0 with them), others are left out");
        for (int n : new int[] {18, 19, 20, 25}) {
            StringBuilder body = new StringBuilder();
            StringBuilder text = new StringBuilder();
            for (int i = 0; i < n; i++) {
                body.append("--q\n\np").append(i).append("\n");
                text.append(i < 19 ? "p" + i + "\n" : "");
            }
            parted(n + " parts in part 0", "multipart/x; boundary=q", body.toString(), Math.min(20, n + 1), text.toString());
        }
        for (int ahead : new int[] {16, 17, 18, 19}) {
            StringBuilder body = new StringBuilder();
            StringBuilder text = new StringBuilder();
            for (int i = 0; i < ahead; i++) {
                body.append("--q\n\np").append(i).append("\n");
                text.append("p").append(i).append("\n");
            }
            body.append("--q\n" + TYPE + ": multipart/x; boundary=r\n\n--r\n\nin1\n--r\n\nin2\n--r--\n--q\n\nlast\n");
            String[] rest = {"in1\nin2\n", "in1\n", "", ""};
            parted("parts in a part behind " + ahead, "multipart/x; boundary=q", body.toString(), 20, text + rest[ahead - 16]);
        }
        StringBuilder inner = new StringBuilder("--q\n" + TYPE + ": multipart/x; boundary=r\n\n");
        StringBuilder text = new StringBuilder();
        for (int i = 0; i < 18; i++) {
            inner.append("--r\n\nin").append(i).append("\n");
            text.append("in").append(i).append("\n");
        }
        parted("those in the first one are ahead of the second", "multipart/x; boundary=q", inner + "--r--\n--q\n\nout\n", 20, text.toString());
        parted("attachments count, too", "multipart/x; boundary=q", ("--q\n" + TYPE + ": a/b\n\nx\n").repeat(18) + "--q\n\none\n--q\n\ntwo\n", 20,
            "one\n");
    }

    private static void leaves() {
        Desk.of("Other parts are LEAVES: text/plain TEXT, text/html HTML, all others ATTACHMENTS");
        String[] types = {"text/plain", "text/html", "text/x", "a/plain", "multipart/x", "multipart/x; boundary=\"\""};
        String[] texts = {"<i>x\n", "x\n", "", "", "", ""};
        for (int i = 0; i < types.length; i++) {
            parted("a part of " + types[i], "multipart/x; boundary=q", "--q\n" + TYPE + ": " + types[i] + "\n\n<i>x\n--q--", 2, texts[i]);
            Desk desk = Desk.with("attach A ext").judge("--q\n" + TYPE + ": " + types[i] + "; name=a.ext\n\n<i>x\n--q--", TYPE,
                "multipart/x; boundary=q");
            Desk.due("an attachment: " + types[i], desk.held(0), i < 2 ? "" : "0");
        }
    }

    // ---- markup

    private static void markup(String want, String body) {
        Desk.due("text of " + body, Desk.textOf(body, TYPE, "text/html; charset=iso-8859-1"), want + "\n");
    }

    private static void comments() {
        Desk.of("<!-- and all up to --> with it (to the end without one) is left out");
        markup("ab", "a<!---->b");
        markup("ab", "a<!-- <p> > -- > ->-->b");
        markup("a", "a<!-->b");
        markup("a", "a<!--->b");
        markup("a", "a<!--b--");
        markup("a", "a<!--b-- >");
        markup("a", "a<!--");
        markup("ab-->c", "a<!-- x -->b-->c");
        markup("ab", "a<!- x>b");
        markup("ab", "a<! -->b");
    }

    private static void tags() {
        Desk.of("< and a letter, / or ! is a TAG, up to the next > with it (to the end without one), and left out");
        for (String tag : new String[] {"<a>", "<Z>", "<z x='y'>", "</>", "</a>", "<!>", "<!x>", "<a\nb>", "<a<b>", "<//>", "<!/>"}) {
            markup("ab", "a" + tag + "b");
        }
        for (String none : new String[] {"<>", "< b>", "<1>", "<@>", "<[>", "<`>", "<{>", "<?x>", "<-a>", "<\u00e9>", "<&amp>"}) {
            markup("a" + none + "b", "a" + none + "b");
        }
        markup("a", "a<b");
        markup("a", "a</");
        markup("a", "a<!");
        markup("a<", "a<");
        markup("a\">b", "a<x y=\">\">b");
        Desk.of("of br, p, div, tr, li, h1 (with / or without) a 10 comes instead; its NAME: letters and digits behind < (and / if there is one), SMALL");
        for (String name : new String[] {"br", "p", "div", "tr", "li", "h1", "BR", "P", "Div", "tR", "LI", "H1"}) {
            for (String rest : new String[] {">", " >", "/>", " x=y>", "\n>", "-x>", "_>"}) {
                markup("a\nb", "a<" + name + rest + "b");
                markup("a\nb", "a</" + name + rest + "b");
            }
            markup("ab", "a<" + name + "x>b");
            markup("ab", "a<" + name + "1>b");
            markup("ab", "a<!" + name + ">b");
            markup("ab", "a<//" + name + ">b");
            markup("ab", "a</ " + name + ">b");
            markup("a", "a<" + name);
        }
        for (String name : new String[] {"b", "d", "di", "t", "l", "h", "h2", "h10", "hr", "td", "pre", "ul", "q", "bt", "lt"}) {
            markup("ab", "a<" + name + ">b");
        }
    }

    private static void scripts() {
        Desk.of("of script and style (without /) all up to the next </ and that name (SMALL; from there on it goes on; to the end without one) is left out, too");
        for (String name : new String[] {"script", "style"}) {
            markup("ab", "a<" + name + ">x</" + name + ">b");
            markup("ab", "a<" + name.toUpperCase() + " y=z>x < </ <p> &amp; <!--</" + name.toUpperCase() + " >b");
            markup("ab", "a<" + name + "/>x</" + name + ">b");
            markup("ab", "a<" + name + "></" + name + ">b");
            markup("ab", "a<" + name + ">x</" + name + "xyz>b");
            markup("a", "a<" + name + ">x</" + name);
            markup("a", "a<" + name + ">x</" + name.substring(1) + ">b");
            markup("a", "a<" + name + ">x< /" + name + ">b");
            markup("a", "a<" + name + ">x");
            markup("a", "a<" + name + ">");
            markup("a", "a<" + name);
            markup("axb", "a</" + name + ">x</" + name + ">b");
            markup("axb", "a<" + name + "s>x</" + name + "s>b");
            markup("axb", "a<" + name + "1>xb");
            markup("axb", "a<!" + name + ">xb");
            markup("ab", "a<" + name + " y=\"</" + name + ">\">x</" + name + ">b");
        }
        markup("a", "a<script>x</style>b");
        markup("ab", "a<script>x</style></script>b");
        markup("ab", "a<script>x<script>y</script>b");
    }

    private static void links() {
        Desk.of("In a tag a blank, href= (SMALL) and a sign 34 begin a LINK: what is up to the next sign 34 (or the tag's end); the first such one alone");
        String u = "http://h/x";
        String[] right = {"<a href=\"" + u + "\">", "<a\thref=\"" + u + "\">", "<A HREF=\"" + u + "\">", "<a x=y href=\"" + u + "\" z>", "<a  hReF=\""
            + u + "\"", "<a href=\"" + u, "<a href=\"" + u + ">", "</a href=\"" + u + "\">", "<! href=\"" + u + "\">",
            "<p href=\"" + u + "\">", "<script href=\"" + u + "\">", "<a href=x href=\"" + u + "\">", "<a href='x' href=\"" + u + "\">",
                "<a xhref=\"x\" href=\"" + u + "\">"};
        for (String tag : right) {
            Desk desk = Desk.with("uri A /^http:..h.x$/").judge(tag, TYPE, "text/html");
            Desk.due("links in " + tag, desk.sieve.session(0, 12), 1);
            Desk.due("the link in " + tag, desk.held(0), "0");
        }
        String[] none = {"<a href='" + u + "'>", "<a href=" + u + ">", "<ahref=\"" + u + "\">", "<a\nhref=\"" + u + "\">", "<a href =\"" + u + "\">",
            "<a href= \"" + u + "\">", "<a hrefs=\"" + u + "\">", "<a xhref=\"" + u + "\">", "<!-- <a href=\"" + u + "\"> -->",
            "<script><a href=\"" + u + "\"></script>", "<a href=\"\" href=\"" + u + "\">", "<a href=\"x\" href=\"" + u + "\">", "<a href=\" " + u
                + "\">", "<a href=\"x" + u + "\">", "<a href=\"", "<a href=", "<a> href=\"", "<a href=\"http://\">", "<a href=\"http:/h\">",
            "<a href=\"http://_\">", "<a x=\">\" href=\"ftp://h\">"};
        for (String tag : none) {
            Desk desk = new Desk();
            for (char sign : Desk.LITTER.toCharArray()) {
                desk.judge(tag, TYPE, "text/html");
                Desk.due("no link in " + tag, desk.sieve.session(0, 12), 0);
                desk.litter(sign, tag.length() + 40);
            }
        }
        Desk.due("none of a text", new Desk().judge("<a href=\"http:/\">", TYPE, "text/plain").sieve.session(0, 12), 0);
    }

    private static void linksOfOneMessage() {
        Desk desk = new Desk().judge("<a href=\"http://one\">", TYPE, "text/html");
        Desk.due("a link", desk.sieve.session(0, 12), 1);
        Desk.due("the next message has it no more", desk.judge("123456789http://one").sieve.session(0, 12), 1);
        desk = Desk.with("uri A /^http:..h#x$/").judge("<a href=\"http://h#x\">", TYPE, "text/html");
        Desk.due("signs within a link", desk.held(0), "0");
    }

    private static void entities() {
        Desk.of("The sign 38 and one of amp; lt; gt; quot; nbsp; are 38, <, >, \" and 32");
        markup("x&y<z>a\"b c", "x&amp;y&lt;z&gt;a&quot;b&nbsp;c");
        markup("x y", "x&nbsp;&nbsp; &nbsp;y");
        for (String none : new String[] {"&", "&;", "&amp", "&am;", "&ampx;", "&amp ;", "&AMP;", "&Lt;", "&gT;", "&QUOT;", "&Nbsp;", "&apos;", "&l;",
            "&ltt;", "&quo;", "&quott;", "&nbs;", "& lt;", "&#", "&#;"}) {
            markup("x" + none + "y", "x" + none + "y");
            markup("x" + none, "x" + none);
        }
        markup("&amp;", "&amp;amp;");
        markup("&&", "&&amp;");
        markup("<b>", "&lt;b&gt;");
        Desk.due("of TEXT they stay", Desk.textOf("&amp;"), "&amp;\n");
    }

    private static void numbers() {
        Desk.of("the signs 38 and #, 1 to 7 digits and ; that char");
        markup("A", "&#65;");
        markup(".", "&#9;.");
        markup("\u0001", "&#1;");
        markup("A", "&#0000065;");
        markup("&#00000065;", "&#00000065;");
        markup("&#", "&#");
        markup("&#;", "&#;");
        markup("&#65", "&#65");
        markup("&#65 ;", "&#65 ;");
        markup("&#x41;", "&#x41;");
        markup("&#-1;", "&#-1;");
        markup("&#6a;", "&#6a;");
        markup("&#/;&#:;", "&#/;&#:;");
        Desk.of("(65533 when it is 0, 55,296 to 57,343 or above 1,114,111)");
        int[] numbers = {0, 1, 55295, 55296, 57343, 57344, 65533, 65536, 1114111, 1114112, 9999999};
        for (int n : numbers) {
            boolean none = n == 0 || n >= 55296 && n <= 57343 || n > 1114111;
            markup("[" + new String(Character.toChars(none ? 65533 : n)) + "]", "[&#" + n + ";]");
        }
        markup("\ufffd", "&#0000000;");
        markup("\ufffd", "&#00;");
    }

    // ---- texts

    private static void smooth(String want, String body) {
        Desk.due("smoothed " + body, Desk.textOf(body, TYPE, "text/plain; charset=iso-8859-1"), want + "\n");
    }

    private static void smoothing() {
        Desk.of("SMOOTHED: 13 left out; each row of 9, 32, 160 is one 32");
        smooth("ab", "a\rb");
        smooth("ab", "\r\ra\r\rb\r");
        smooth("a b", "a b");
        smooth("a b", "a\tb");
        smooth("a b", "a\u00a0b");
        smooth("a b", "a \t\u00a0 \r\t b");
        smooth("a\u000bb\u000cc\u0008\u001f\u00a1", "a\u000bb\u000cc\u0008\u001f\u00a1");
        Desk.of("a 32 ahead of or behind a 10, at the beginning or end, left out; several 10 one; a 10 at the beginning or end left out; and a 10 behind it");
        smooth("", "");
        smooth("", " ");
        smooth("", "\n");
        smooth("", " \n \r\n\t\n ");
        smooth("a", " a ");
        smooth("a", "\n\na\n\n");
        smooth("a", " \n a \n ");
        smooth("a\nb", "a\nb");
        smooth("a\nb", "a \n b");
        smooth("a\nb", "a\n\n\nb");
        smooth("a\nb", "a \n \t\n\u00a0\r\n b");
        smooth("a b\nc d", "a  b \n c  d");
    }

    private static void texts() {
        Desk.of("THE TEXT: of each TEXT and HTML leaf, in order. THE RAW TEXT: of each the chars as they are, and a 10");
        String body = "--q\n\n one  1 \n--q\n" + TYPE + ": a/b\n\nnone\n--q\n" + TYPE + ": text/html\n\n<p> two  2 \n--q\n\n\n--q--";
        Desk desk = Desk.with("raw A /^ one  1 \\n<p> two  2 \\n\\n$/", "raw B /none/", "body C /^one 1\\ntwo 2\\n\\n$/", "body D /none/",
            "count E lines 3 =", "count F chars 13 =").judge(body, TYPE, "multipart/x; boundary=q");
        Desk.due("both", desk.held(0), "0 2 4 5");
        Desk.due("the text", desk.text(0), "one 1\ntwo 2\n\n");
        Desk attachment = Desk.with("raw A /^$/", "raw B /./", "body C /^$/", "count D chars").judge("none", TYPE, "a/b");
        Desk.due("without leaves both are empty", attachment.held(0), "0 2");
        Desk greatest = new Desk().judge("x".repeat(6000));
        Desk.due("the greatest body's chars", greatest.sieve.session(0, 11), 6001);
        Desk.due("the last but one", greatest.sieve.text(0, 5999), (int) 'x');
        Desk.due("the last", greatest.sieve.text(0, 6000), 10);
        Desk.due("behind the last", greatest.sieve.text(0, 6001), -1);
    }

    // ---- uris

    private static void uri(String body, String... want) {
        List<String> lines = new ArrayList<>();
        for (int i = 0; i < want.length; i++) {
            StringBuilder expression = new StringBuilder();
            for (char c : want[i].toCharArray()) {
                expression.append(c == '/' ? "." : Character.isLetterOrDigit(c) ? "" + c : "\\" + c);
            }
            lines.add("uri U" + i + " /^" + expression + "$/");
        }
        Desk desk = Desk.with(lines.toArray(new String[0]));
        for (char sign : Desk.LITTER.toCharArray()) {
            desk.judge(body);
            Desk.due("uris of " + body, desk.sieve.session(0, 12), want.length);
            Desk.due("all of them of " + body, desk.sieve.session(0, 9), want.length);
            desk.litter(sign, body.length() + 40);
        }
    }

    private static void urisOfTheText() {
        Desk.of("URIS: in the text, from the left: http:// or https:// (SMALL) and a HOST behind it (letters, digits, - and ., one or more)");
        uri("http://a", "http://a");
        uri("HTTPS://a", "HTTPS://a");
        uri("hTtP://-", "hTtP://-");
        uri("x http://.", "http://.");
        uri("xhttp://9", "http://9");
        uri("http://Zz", "http://Zz");
        for (String none : new String[] {"http://", "http:// a", "http:///a", "http:/a", "http:a", "http//a", "ttp://a", "httpss://a", "httpx://a",
            "htt ps://a", "ftp://a", "http://_", "http://:", "http://@", "http://[", "http://`", "http://{", "http://,", "http://\u00e9", "https://",
            "https:/a"}) {
            uri(none);
        }
        uri("hhttp://a", "http://a");
        uri("http://http://a", "http://http://a");
        uri("http:// http://a", "http://a");
        uri("http:///http://a", "http://a");
        Desk.of("all chars 33 to 126 but < > \" ' ( ) from the h on; behind it the search goes on");
        uri("http://a!#$%&*+,-./09:;=?@AZ[\\]^_`az{|}~", "http://a!#$%&*+,-./09:;=?@AZ[\\]^_`az{|}~");
        for (String end : new String[] {" ", "\n", "<", ">", "\"", "'", "(", ")", "\u007f", "\u0001", "\u00e9"}) {
            uri("http://a" + end + "b", "http://a");
            uri("http://a/b" + end + "http://c", "http://a/b", "http://c");
        }
        uri("http://a;http://b", "http://a;http://b");
    }

    private static void urisOfLinks() {
        Desk.of("then the links that begin so, in order. (Of a link: from its first char on, likewise.)");
        Desk desk = Desk.with("uri A /^http:..one$/", "uri B /^http:..two.x$/", "uri C /^https:..three$/", "uri D /no/");
        desk.judge("<a href=\"http://two/x no\"> http://one <a href=\"no http://no\"><a href=\"https://three<no\"><a href=\"\"><a href=\"mailto:no\">",
            TYPE, "text/html");
        Desk.due("uris", desk.sieve.session(0, 12), 3);
        Desk.due("held", desk.held(0), "0 1 2");
        desk.sieve.learn(0, true);
        int at = 0;
        List<Long> digests = new ArrayList<>();
        for (int i = 7; i + 8 < desk.sieve.state(7); i += 8) {
            long digest = 0;
            for (int k = 0; k < 8; k++) {
                digest = digest << 8 | desk.sieve.journal(i + k);
            }
            digests.add(digest);
        }
        for (String host : new String[] {"u:one", "u:two", "u:three"}) {
            int place = digests.indexOf(Desk.digest(host));
            Desk.due("the host " + host + " comes in order", place >= at, true);
            at = place;
        }
        Desk.due("a text has no links", new Desk().judge("<a href=\"http://x\">").sieve.session(0, 12), 1);
    }

    private static void atMostTwentyUris() {
        Desk.of("At most 20 (the others are left out)");
        for (int n : new int[] {19, 20, 21, 40}) {
            StringBuilder text = new StringBuilder();
            StringBuilder html = new StringBuilder();
            StringBuilder both = new StringBuilder("http://a http://b ");
            for (int i = 0; i < n; i++) {
                text.append("http://h").append(i).append(" ");
                html.append("<a href=\"http://h").append(i).append("\">");
                both.append(i < n - 2 ? "<a href=\"http://h" + i + "\">" : "");
            }
            for (String body : new String[] {text.toString(), html.toString(), both.toString()}) {
                Desk desk = Desk.with("uri A /h18$/", "uri B /h19$/", "uri C /h20$/", "uri D /h17$/").judge(body, TYPE, "text/html");
                Desk.due("how many of " + n, desk.sieve.session(0, 12), Math.min(20, n));
                boolean mixed = body.startsWith("http://a");
                Desk.due("which of " + n + (mixed ? " mixed" : ""), desk.held(0), mixed ? n == 19 ? "" : "3" : n == 19 ? "0 3" : "0 1 3");
            }
        }
        Desk many = Desk.with("uri A /last/").judge("<a href=\"no\">".repeat(300) + "<a href=\"http://last\">", TYPE, "text/html");
        Desk.due("links that are no uris do not count", many.held(0), "0");
        Desk most = Desk.with("uri A /last/").judge("<a href=\">".repeat(560) + "<a href=\"http://last", TYPE, "text/html");
        Desk.due("of as many links as there can be", most.held(0), "0");
    }

    private static void longUris() {
        Desk.of("of at most 120 chars (the rest cut)");
        for (int length : new int[] {119, 120, 121, 300}) {
            String uri = "http://" + "y".repeat(length - 8) + "z";
            for (String body : new String[] {uri + " x", "<a href=\"" + uri + "\">"}) {
                Desk desk = Desk.with("uri A /^(.{20}){6}$/", "uri B /z$/", "uri C /^(.{17}){7}$/", "uri D /^(.{20}){6}./").judge(body, TYPE,
                    "text/html");
                Desk.due("a uri of " + length, desk.held(0), length == 119 ? "1 2" : length == 120 ? "0 1" : "0");
            }
        }
        Desk.due("behind all of it the search goes on", new Desk().judge("http://" + "y".repeat(130) + "http://no http://b").sieve.session(0, 12), 2);
    }

    private static void host(String want, String body) {
        Desk desk = new Desk().judge(body);
        desk.sieve.learn(0, true);
        Desk.due("the host of " + body, desk.sieve.entry(Desk.digest("u:" + want), 0), 1);
    }

    private static void hosts() {
        Desk.of("The HOST (of the chars that are kept) is SMALL, without the points at its end");
        host("a.b", "http://A.B");
        host("a.b", "http://a.b./x");
        host("a.b", "http://a.b...");
        host(".a", "http://.a.");
        host("", "http://...");
        host("a", "http://a_b");
        host("a", "https://a:80/b");
        host("-9z", "http://-9Z~");
        String long40 = "h".repeat(39);
        host(long40, "http://" + long40);
        host(long40 + "i", "http://" + long40 + "i");
        host(long40 + "i", "http://" + long40 + "ij");
        host(long40 + ".", "http://" + long40 + ".x");
        host(long40, "http://" + long40 + "." + ".");
        // of 120 chars 113 are the host's; a point that is kept last, ahead of one that is cut, is at its end
        host("p".repeat(40), "http://" + "p".repeat(112) + ".x");
        host("", "http://" + ".".repeat(113) + "x");
        host(".".repeat(40), "http://" + ".".repeat(112) + "x");
    }

    // ---- what ends too soon, behind a message that did not

    /** What is told of a message, with the digests of its tokens. */
    private static String told(Desk desk) {
        StringBuilder all = new StringBuilder(desk.text(0) + " " + desk.held(0));
        for (int what = 10; what <= 13; what++) {
            all.append(' ').append(desk.sieve.session(0, what));
        }
        int from = desk.sieve.compact();
        desk.sieve.learn(0, true);
        for (int i = from; i < desk.sieve.state(7); i++) {
            all.append(' ').append(desk.sieve.journal(i));
        }
        return all.toString();
    }

    private static void cutBodies() {
        Desk.of("LINES end with 13 10 or 10 (or the end); (to the end without one): at each place");
        String[] types = {"multipart/x; boundary=q", "text/html; charset=utf-8", "text/plain; charset=utf-8", "text/html"};
        String[] codings = {"7bit", "7bit", "quoted-printable", "base64"};
        String html = "a<br>b<script>x</script>c&amp;&#65;&nbsp;<!-- x -->\u00c3\u00a9\u00e2\u0082\u00ac\u00f0\u009f\u0098\u0080<a href=\"http://h.x/y\">z</a>http://i.j/k (https://l) 'm'<a href=\"http://last.one/\"";
        String[] bodies = {
            "a\r\n--q\r\nContent-Type: text/html;\r\n charset=\"utf-8\"\r\nContent-Transfer-Encoding: base64\r\n\r\nPGI+eA==\r\n--q \r\n\r\nplain\r\n--q\r\nContent-Type: a/b; name=c.exe\r\n\r\nx\r\n--q--\r\nout",
            html, "a=41=\r\nb =  \r\nc \r\n=C3=A9=E2=82=AC d=3D", Base64.getEncoder().encodeToString(Desk.bytes(html))};
        for (int i = 0; i < bodies.length; i++) {
            String[] lines = {"attach A exe", "raw B / $/", "raw C /\\n\\n/", "raw D /.$/"};
            Desk used = Desk.with(lines);
            Desk fresh = Desk.with(lines);
            for (int cut = 0; cut <= bodies[i].length(); cut++) {
                String body = bodies[i].substring(0, cut);
                used.judge(bodies[i], TYPE, types[i], CODING, codings[i]);
                used.judge(body, TYPE, types[i], CODING, codings[i]);
                // zeros, which mean nothing anywhere, are left behind in this one
                fresh.judge("\0".repeat(bodies[i].length()), TYPE, "text/plain");
                fresh.judge(body, TYPE, types[i], CODING, codings[i]);
                Desk.due("the first " + cut + " of " + bodies[i], told(used), told(fresh));
            }
        }
    }

    private static void cutHeaders() {
        Desk.of("ENCODED WORDS and CONTENT-TYPE: what is none, at each place");
        List<String> lines = new ArrayList<>();
        for (int k = 0; k <= 20; k++) {
            lines.add("header L" + k + " Subject /^(.|\\n){" + k + "}$/");
        }
        String[] values = {"=?us-ascii?Q?a=41b?=", "=?utf-8?B?w6nDqQ==?=", "a =?us-ascii?q?b?= =?us-ascii?b?Yw==?= d", "=?utf-8?Q?=e2=82=ac?="};
        for (String value : values) {
            Desk used = Desk.with(lines.toArray(new String[0]));
            Desk fresh = Desk.with(lines.toArray(new String[0]));
            for (int cut = 0; cut <= value.length(); cut++) {
                used.judge("", "Subject", value);
                used.judge("", "Subject", value.substring(0, cut));
                fresh.judge("", "Subject", "\u0001".repeat(value.length()));
                fresh.judge("", "Subject", value.substring(0, cut));
                Desk.due("the first " + cut + " of " + value, told(used), told(fresh));
            }
        }
        String[] types = {"text/html; a=\"b\\\"c\"; charset=\"utf-8\"", "text/html ; charset=utf-8 ; d=e", "multipart/mixed; boundary=\"q\""};
        String body = "<b>\u00c3\u00a9\n--q\n\nx\n--q--";
        for (String type : types) {
            Desk used = new Desk();
            Desk fresh = new Desk();
            for (int cut = 0; cut <= type.length(); cut++) {
                used.judge(body, TYPE, type);
                used.judge(body, TYPE, type.substring(0, cut));
                fresh.judge(body, TYPE, "\u0001".repeat(type.length()));
                fresh.judge(body, TYPE, type.substring(0, cut));
                Desk.due("the first " + cut + " of " + type, told(used), told(fresh));
            }
        }
    }
}
