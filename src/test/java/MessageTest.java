/** Promise 23 and term 2: what becomes of a message's text; 10 to 13 of promise 21. */
public final class MessageTest {
    private static final String TYPE = "Content-Type";
    private static final String CODING = "Content-Transfer-Encoding";

    public static void main(String[] args) {
        smoothing();
        charsets();
        base64();
        quotedPrintable();
        contentTypes();
        parts();
        partFields();
        nesting();
        atMostTwentyParts();
        markup();
        entities();
        uris();
        encodedWords();
        tokens();
        wrongPlacesOfText();
        Desk.end();
    }

    private static void text(String want, String body, String... headers) {
        Desk.due("text of " + body + " " + String.join("/", headers), Desk.textOf(body, headers), want);
    }

    private static Desk judged(String body, String... headers) {
        Desk desk = new Desk();
        desk.meet(0, "");
        desk.give(0, Desk.message(body, headers));
        return desk;
    }

    private static void html(String want, String body) {
        text(want + "\n", body, TYPE, "text/html; charset=iso-8859-1");
    }

    private static void smoothing() {
        text("\n", "");
        text("\n", " \r\n\t \n ");
        text("a b\n", "a\t \t b");
        text("a\nb\n", "  a  \r\n \r\n\n b\n\n");
        text("ab\n", "a\rb");
        text("a b\n", "a \r b");
        text("a b\n", "\u00a0a\u00a0\u00a0b\u00a0", TYPE, "text/plain; charset=iso-8859-1");
    }

    private static void charsets() {
        text("a\ufffd\n", "a\u00e9");
        text("a\ufffd\n", "a\u00e9", TYPE, "text/plain; charset=us-ascii");
        text("a\u00e9\n", "a\u00e9", TYPE, "text/plain; charset=ISO-8859-1");
        text("a\u00e9\n", "a\u00e9", TYPE, "text/plain; charset=koi8-r");
        text("a\u00e9\n", "a\u00e9", TYPE, "text/plain; charset=\"\"");
        utf8("\u00e9\u20ac\ud83d\ude00", "\u00c3\u00a9\u00e2\u0082\u00ac\u00f0\u009f\u0098\u0080");
        utf8("\ufffd\ufffdx", "\u00c0\u0080x");
        utf8("\ufffd\ufffd", "\u00c1\u00bf");
        utf8("\u0080\u07ff\u0800\uffff", "\u00c2\u0080\u00df\u00bf\u00e0\u00a0\u0080\u00ef\u00bf\u00bf");
        utf8("\ufffd\ufffd\ufffd", "\u00e0\u009f\u00bf");
        utf8("\ufffd\ufffd\ufffd", "\u00ed\u00a0\u0080");
        utf8("\ud7ff\ue000", "\u00ed\u009f\u00bf\u00ee\u0080\u0080");
        utf8("\ufffd\ufffd\ufffd\ufffd", "\u00f0\u008f\u00bf\u00bf");
        utf8("\ud800\udc00\udbff\udfff", "\u00f0\u0090\u0080\u0080\u00f4\u008f\u00bf\u00bf");
        utf8("\ufffd\ufffd\ufffd\ufffd", "\u00f4\u0090\u0080\u0080");
        utf8("\ufffd\ufffd\ufffd\ufffd", "\u00f5\u0080\u0080\u0080");
        utf8("\ufffda", "\u00e2a");
        utf8("\ufffd\ufffd", "\u00e2\u0082");
        utf8("\ufffd\u00e9", "\u00e2\u00c3\u00a9");
    }

    private static void utf8(String want, String body) {
        text(want + "\n", body, TYPE, "text/plain; charset=utf-8");
    }

    private static void base64() {
        String[] rows = {"aGVsbG8=", "aGVs\r\nbG8", "aG!V*sbG8", "aGVsbG8=aaaa", "aGVsbG8", "aGVsbGk"};
        String[] want = {"hello", "hello", "hello", "hello", "hello", "helli"};
        for (int i = 0; i < rows.length; i++) {
            text(want[i] + "\n", rows[i], CODING, "BASE64");
        }
        text("he\n", "aGV", CODING, "base64");
        text("h\n", "aG", CODING, "base64");
        text("\n", "a", CODING, "base64");
        text("hel\n", "aGVsb", CODING, " base64 ");
        text("a?>?\n", "YT8+Pw==", CODING, "base64");
        text("a~~~\n", "YX5+fg==", CODING, "base64");
        text("aGVs\n", "aGVs", CODING, "base64;");
        text("\u00ff\u00ff\u00ff\n", "////", CODING, "base64", TYPE, "text/plain; charset=x");
    }

    private static void quotedPrintable() {
        String[][] rows = {{"a=62c", "abc"}, {"a=\r\nb", "ab"}, {"a=\nb", "ab"}, {"a= \t\r\nb", "ab"}, {"a=", "a"}, {"a=  ", "a"}, {"a=4", "a=4"}, {"a=G1", "a=G1"},
            {"a=\rb", "a=b"}, {"a=3d3d", "a=3d"}, {"a=3D", "a="}, {"a = b", "a = b"}, {"a=20\r\nb", "a\nb"}, {"a=20=\r\nb", "a b"}, {"a \r\n=20b", "a\nb"},
            {"a  =\r\nb", "a b"}, {"x\t\ry", "x y"}};
        for (String[] row : rows) {
            text(row[1] + "\n", row[0], CODING, "Quoted-Printable");
        }
        text("\u00e9\n", "=c3=A9", CODING, "quoted-printable", TYPE, "text/plain; charset=utf-8");
        // blanks ahead of a line's end are not there for an expression on the raw text either
        Desk desk = new Desk();
        desk.line("raw A /b \\n/");
        desk.line("raw B /a\\n/");
        desk.line("raw C /c \\n/");
        desk.sieve.load();
        desk.meet(0, "");
        desk.give(0, Desk.message("a \t\nb=20\nc =\n", CODING, "quoted-printable"));
        Desk.due("raw text", desk.held(0), "0 1 2");
    }

    private static void contentTypes() {
        String e = "\u00c3\u00a9";
        String[] utf = {"text/plain; charset=utf-8", "TEXT/Plain;CHARSET=UTF-8", "text/plain \t; \tcharset=\"utf-8\"", "text/plain; charset=\"u\\tf-\\8\"", "text/plain; a=b; charset=utf-8; charset=us-ascii",
            "text/plain; a=\"; charset=us-ascii\"; charset=utf-8", "text/plain;\r\n charset=utf-8", " text/plain; charset=utf-8 ", "text/plain; charset=utf-8\"", "text/plain; charset=utf-8 x"};
        for (String type : utf) {
            text("\u00e9\n", e, TYPE, type);
        }
        String[] ascii = {"text/plain", "text/plain;; charset=utf-8", "text/plain charset=utf-8", "text/plain; charset =utf-8", "text/plain; charset= utf-8", "text/plain; charset=\"utf-8", "text; charset=utf-8",
            "text/; charset=utf-8", "/plain; charset=utf-8", "text /plain; charset=utf-8", "", "text/plain; x; charset=utf-8"};
        for (String type : ascii) {
            text("\ufffd\ufffd\n", e, TYPE, type);
        }
        for (String type : new String[] {"x+y", "x-y", "x.y", "x_y", "1"}) {
            text("\n\u00e9\n", "--q\n\n--q\nContent-Type: text/plain; " + type + "=z; charset=utf-8\n\n" + e, TYPE, "Multipart/" + type + "; boundary=q");
        }
        text("", "x", TYPE, "text/rtf");
        text("", "x", TYPE, "application/plain");
        text("x\n", "x", TYPE, "text/plain", TYPE, "image/png");
        text("", "x", TYPE, "image/png", TYPE, "text/plain");
        text("x\n", "x", " " + TYPE, "image/png");
    }

    private static String parted(String... lines) {
        return String.join("\r\n", lines);
    }

    private static void multi(String want, int parts, String body) {
        Desk desk = judged(body, TYPE, "multipart/mixed; boundary=\"b b\"");
        Desk.due("text of " + body, desk.text(0), want);
        Desk.due("parts of " + body, desk.sieve.session(0, 10), parts);
    }

    private static void parts() {
        multi("one\ntwo\n", 3, parted("left out", "--b b", "", "one", "--b b", "", "two", "--b b--", "", "out"));
        multi("one\n", 2, parted("--b b \t", "", "one", "--b b-- \t", "--b b", "", "out"));
        multi("one\n--b bx\n--b b-x\n--B b\n", 2, parted("--b b", "", "one", "--b bx", "--b b-x", "--B b"));
        multi("one\n", 2, "--b b\n\none\n");
        multi("\n", 2, "--b b");
        multi("\n", 2, "--b b\r\n");
        multi("\n\n", 3, parted("--b b", "--b b", "", "--b b--"));
        multi("", 1, "--b b--\r\n--b b\r\n\r\nx");
        multi("", 1, "no parts");
        multi("", 1, "");
        multi("a\nb\n", 2, parted("--b b", "", "a", "", "b", "", "--b b--"));
        String long70 = "z".repeat(70);
        text("x\n", parted("--" + long70, "", "x"), TYPE, "multipart/x; boundary=" + long70);
        text("", parted("--" + long70 + "z", "", "x"), TYPE, "multipart/x; boundary=" + long70 + "z");
        text("", parted("--", "", "x"), TYPE, "multipart/x; boundary=\"\"");
        text("x\n", parted("--a\"b", "", "x"), TYPE, "multipart/x; boundary=\"a\\\"b\"");
        text("x\n", parted("--a--", "", "x", "--a----"), TYPE, "multipart/x; boundary=a--");
        // a raw text tells what bytes a part has
        Desk desk = new Desk();
        desk.line("raw A /^x\\n\\ny\\nz\\n\\n$/");
        desk.sieve.load();
        desk.meet(0, "");
        desk.give(0, Desk.message("--q\n\nx\n\n--q\n\ny\n--q\n\nz\n", TYPE, "multipart/x; boundary=q"));
        Desk.due("the line's end ahead of a separator is not of the part", desk.held(0), "0");
    }

    private static void partFields() {
        String e = "\u00e9";
        String latin = "text/plain; charset=iso-8859-1";
        multi(e + "\n", 2, parted("--b b", "content-TYPE:" + latin, "", e));
        multi(e + "\n", 2, parted("--b b", "Content-Type \t: " + latin, "", e));
        multi(e + "\n", 2, parted("--b b", "Content-Type:", " text/plain;", "\tcharset=iso-8859-1", "", e));
        multi(e + "\n", 2, parted("--b b", "junk", ": nothing ahead", "  : blanks ahead", "Content-Type: " + latin, "", e));
        multi("\ufffd\n", 2, parted("--b b", " Content-Type: " + latin, "", e));
        multi("\ufffd\n", 2, parted("--b b", "X: y", " Content-Type: " + latin, "", e));
        multi("\ufffd\n", 2, parted("--b b", "Content-Type: text/plain", "Content-Type: " + latin, "", e));
        multi("\n", 2, parted("--b b", "Content-Type: " + latin, e));
        multi("hello\n", 2, parted("--b b", "Content-Transfer-Encoding: base64", "", "aGVs", "bG8="));
        multi("a b\n", 2, parted("--b b", "Content-Type: text/html", "", "<b>a</b> b"));
        multi("", 2, parted("--b b", "Content-Type: image/png", "", "x"));
    }

    private static void nesting() {
        StringBuilder body = new StringBuilder();
        for (int depth = 0; depth < 5; depth++) {
            body.append("--b").append(depth).append("\nContent-Type: multipart/x; boundary=b").append(depth + 1).append("\n\n");
        }
        body.append("--b5\n\ntoo deep\n");
        Desk desk = judged(body.toString(), TYPE, "multipart/x; boundary=b0");
        // parts 0 to 3 are parted; the one in four others is an attachment
        Desk.due("parts", desk.sieve.session(0, 10), 5);
        Desk.due("text", desk.text(0), "");
        desk = judged("--a\nContent-Type: multipart/x; boundary=i\n\n--i\n\none\n--a\n\ntwo\n--i\n\nthree\n--a--\n", TYPE, "multipart/x; boundary=a");
        Desk.due("by the outer one's own lines", desk.text(0), "one\ntwo\n--i\nthree\n");
        body.setLength(0);
        for (int depth = 0; depth < 5; depth++) {
            body.append("--b").append(depth).append("\nContent-Type: multipart/x; boundary=b").append(depth + 1).append("\n\n");
        }
        body.append("--b5\n\ntoo deep\n--b5--\n--b4--\n--b3--\n--b2--\n--b1--\n--b0--\n");
        Desk deep = judged(body.toString(), TYPE, "multipart/x; boundary=b0");
        Desk.due("parts that are ended", deep.sieve.session(0, 10), 5);
        Desk.due("text of these", deep.text(0), "");
        Desk.due("parts of these", desk.sieve.session(0, 10), 4);
    }

    private static void atMostTwentyParts() {
        StringBuilder body = new StringBuilder("--a\nContent-Type: multipart/x; boundary=i\n\n--i\n\nin1\n--i\n\nin2\n--i--\n");
        for (int i = 0; i < 30; i++) {
            body.append("--a\n\np").append(i).append("\n");
        }
        Desk desk = judged(body.toString(), TYPE, "multipart/x; boundary=a");
        Desk.due("parts", desk.sieve.session(0, 10), 20);
        Desk.due("text", desk.text(0), "in1\nin2\np0\np1\np2\np3\np4\np5\np6\np7\np8\np9\np10\np11\np12\np13\np14\np15\n");
    }

    private static void markup() {
        html("a b", "<b>a</b> <i class='x'>b</i>");
        html("a\nb\nc\nd\ne\nf\ng", "a<br>b<P>c</DIV >d<tr x>e<li/>f<h1>g");
        html("abc", "a<h2>b<brr>c");
        html("ab", "a<!-- <p> > -->b");
        html("a", "a<!-- b");
        html("a", "a<!--> b");
        html("ab", "a<!DOCTYPE x>b");
        html("ab", "a</>b");
        html("ab", "a<//p>b");
        html("a < b <1> <", "a < b <1> <");
        html("a", "a<b");
        html("a", "a<p");
        html("a\">b", "a<x y=\">\">b");
        html("ab", "a<script>x<p>y</SCRIPT>b");
        html("ab", "a<STYLE type=x>x</style >b");
        html("a", "a<script>b</scrip>");
        html("ab", "a<script>x</scripty>b");
        html("ax", "a</script>x");
        html("a", "a<script");
        html("ab", "a<script/>x</script>b");
        html("axb", "a<scripts>x</scripts>b");
        html("b", "<script><!--</script>b");
    }

    private static void entities() {
        html("& < > \" x", "&amp; &lt; &gt; &quot;&nbsp;x");
        html("&AMP; &amp &x; &;", "&AMP; &amp &x; &;");
        html("A\u20ac\ud83d\ude00\udbff\udfff", "&#65;&#8364;&#128512;&#1114111;");
        html("\ufffd\ufffd\ufffd\ufffd", "&#0;&#55296;&#57343;&#1114112;");
        html("\ud7ff\ue000\ufffd", "&#55295;&#57344;&#9999999;");
        html("A &#00000065; &#; &#x41; &#65", "&#0000065; &#00000065; &#; &#x41; &#65");
        html("<b> &lt;", "&lt;b&gt; &amp;lt;");
        html("a\nb c", "a&#13;&#10;b&#160;c");
        html("a&", "a&");
    }

    private static void uris() {
        uri(1, "see http://a.b/c.");
        uri(1, "HTTPS://A");
        uri(0, "http:// http://_ http:/a https:a");
        uri(2, "http://a(http://b)");
        uri(1, "http://a;http://b");
        uri(2, "http://a\u007fhttp://b");
        uri(1, "http://a~!http://b");
        uri(2, "xhttp://a\u00e9http://b");
        uri(20, "http://a ".repeat(30));
        uri(1, "http://" + "h".repeat(300) + "/http://b");
        Desk desk = new Desk();
        desk.line("uri A /^(.{20}){6}$/");
        desk.line("uri B /^http:..l.k$/");
        desk.line("uri C /^https:..m.$/");
        desk.line("uri D /no/");
        desk.line("uri E /^HTTP:..t$/");
        desk.line("uri F /^http:..end$/");
        desk.sieve.load();
        desk.meet(0, "");
        desk.give(0, Desk.message("http://" + "y".repeat(200) + " <a href=\"http://l.k\" href=\"http://no/\"><A x\tHREF=\"https://m/ no\">"
            + "<a href=\" http://no\"><a xhref=\"http://no\"><a href='http://no'><a\nhref=\"http://no\"><a href= \"http://no\"><!-- a href=\"http://no\"-->"
            + "HTTP://t<a href=\"http://end", TYPE, "text/html"));
        Desk.due("uris of text and links", desk.held(0), "0 1 2 4 5");
        Desk.due("how many", desk.sieve.session(0, 12), 5);
        desk.give(0, Desk.message("<b>none</b>", TYPE, "text/html"));
        Desk.due("none in the next message", desk.sieve.session(0, 12), 0);
    }

    private static void uri(int want, String body) {
        Desk.due("uris of " + body, judged(body).sieve.session(0, 12), want);
    }

    private static void encodedWords() {
        String[][] rows = {{"=?utf-8?B?w6k=?=", "\u00e9"}, {"=?UTF-8?q?a=C3=A9_b?=", "a\u00e9 b"}, {"=?iso-8859-1?Q?=E9?=", "\u00e9"}, {"=?us-ascii?b?6Q?=", "\ufffd"},
            {"a =?us-ascii?Q?b?= c", "a b c"}, {"=?us-ascii?Q?a?= \t =?us-ascii?Q?b?=", "ab"}, {"=?us-ascii?Q?a?= x =?us-ascii?Q?b?=", "a x b"}, {"=?us-ascii?Q??=", ""},
            {"=?us-ascii?Q?a?=\r\n =?us-ascii?Q?b?=", "ab"}, {"=?koi8-r?Q?a?= =?us-ascii?Q?b?=", "=?koi8-r?Q?a?= b"}, {"=?us-ascii?Q?a=4?=", "=?us-ascii?Q?a=4?="},
            {"=?us-ascii?X?a?=", "=?us-ascii?X?a?="}, {"=?us-ascii?Q?a b?=", "=?us-ascii?Q?a b?="}, {"=??Q?a?=", "=??Q?a?="}, {"=?us-ascii?Q?a", "=?us-ascii?Q?a"},
            {"==?us-ascii?Q?a?=?=", "=a?="}, {"=?us-ascii?Q?a?b?=", "=?us-ascii?Q?a?b?="}, {"=?us ascii?Q?a?=", "=?us ascii?Q?a?="}, {"\u00e9", "\u00e9"},
            {"  a\r\n\t b \t", "a\t b"}, {"=?us-ascii?B?Y?=", ""}, {"=?us-ascii?Q??= =?us-ascii?Q?b?=", "b"}, {"=?us-ascii?Q?a?", "=?us-ascii?Q?a?"},
            {"=?us-ascii?Q", "=?us-ascii?Q"}, {"=?us-ascii?Q?a=4", "=?us-ascii?Q?a=4"}};
        for (String[] row : rows) {
            Desk desk = new Desk();
            StringBuilder expression = new StringBuilder();
            for (int i = 0; i < row[1].length(); i++) {
                char c = row[1].charAt(i);
                expression.append(c > 126 ? "[^ -~]" : c == 9 ? "\\t" : Character.isLetterOrDigit(c) ? "" + c : "\\" + c);
            }
            desk.line("header A Subject /^" + expression + "$/");
            desk.sieve.load();
            desk.meet(0, "");
            desk.give(0, Desk.message("", "subject", row[0]));
            Desk.due("CHARS of " + row[0], desk.held(0), "0");
            desk.give(0, Desk.message("", "other", "=?us-ascii?Q?a?= =?us-ascii?Q?a?=", "subject", row[0]));
            Desk.due("CHARS behind those of another header of " + row[0], desk.held(0), "0");
        }
    }

    private static void tokens() {
        Desk desk = judged("Free MONEY free it's $$$ -x- ab abcdefghijklm abcdefghijkl a_bcd http://Some.HOST.example../path", "From", "=?utf-8?Q?caf=C3=A9?= x", "Subject", "Free =?utf-8?B?4oKs4oKs4oKs?=",
            "Subject", "second", "From", "another");
        String[] want = {"s:free", "s:\u20ac\u20ac\u20ac", "f:caf\u00e9", "free", "money", "it's", "$$$", "-x-", "abcdefghijkl", "bcd", "http", "some", "host", "example", "path",
            "u:some.host.example"};
        Desk.due("tokens", desk.sieve.session(0, 13), want.length);
        Desk.due("entries", desk.sieve.learn(0, true), want.length);
        for (String token : want) {
            Desk.due("entry " + token, desk.sieve.entry(Desk.digest(token), 0), 1);
        }
        StringBuilder words = new StringBuilder();
        for (int i = 0; i < 150; i++) {
            words.append("w").append(1000 + i).append(" ");
        }
        desk = judged(words.toString());
        desk.sieve.learn(0, false);
        Desk.due("at most 100", desk.sieve.session(0, 13), 100);
        Desk.due("the first ones", desk.sieve.entry(Desk.digest("w1099"), 1), 1);
        Desk.due("no others", desk.sieve.entry(Desk.digest("w1100"), 1), -1);
        desk = judged("ab\u007fcd abc\u007fdef \u00f0\u009f\u0098\u0080xy", TYPE, "text/plain; charset=utf-8");
        desk.sieve.learn(0, false);
        Desk.due("a word with a char of four bytes", desk.sieve.entry(Desk.digest("\ud83d\ude00xy"), 1), 1);
        Desk.due("127 ends a word", desk.sieve.entry(Desk.digest("def"), 1), 1);
        Desk.due("three words", desk.sieve.session(0, 13), 3);
        desk = judged("http://" + "H".repeat(50) + ". http://...");
        desk.sieve.learn(0, false);
        Desk.due("40 chars of a host", desk.sieve.entry(Desk.digest("u:" + "h".repeat(40)), 1), 1);
        Desk.due("a host of points", desk.sieve.entry(Desk.digest("u:"), 1), 1);
    }

    private static void wrongPlacesOfText() {
        Desk desk = judged("abc");
        Desk.due("text -1", desk.sieve.text(0, -1), -1);
        Desk.due("text 0", desk.sieve.text(0, 0), 97);
        Desk.due("text 3", desk.sieve.text(0, 3), 10);
        Desk.due("text 4", desk.sieve.text(0, 4), -1);
        Desk.due("text of another session", desk.sieve.text(1, 0), -1);
    }
}
