/** Term 5, sentence by sentence: great messages, what holds, the limits and the replies at their bounds. */
public final class Term5Test {
    private static final String TYPE = "Content-Type";
    private static final int[] GRANTS = {0x00, 0x01, 0x10, 0x11, 0x20, 0x21, 0x30, 0x31};

    public static void main(String[] args) {
        greatMessages();
        greatMessagesDoNotWait();
        headerRules();
        existsRules();
        textRules();
        uriRules();
        attachRules();
        bayesRules();
        listedRules();
        scores();
        theFirstLimit();
        theSecondLimit();
        theThirdLimit();
        limitsThatAreTheSame();
        limitsThatDoNotRise();
        theMark();
        theSubject();
        theScoresText();
        heldInOrder();
        Desk.end();
    }

    private static void held(String want, String[] lines, String body, String... headers) {
        Desk.due("held of " + String.join(", ", lines), Desk.with(lines).judge(body, headers).held(0), want);
    }

    // ---- great messages

    private static void greatMessages() {
        Desk.of("A GREAT message: score 0, nothing holds, it has no text, uris, tokens, parts, and indicator -1.0; reply a");
        String[] lines = {"count A 1", "score A 100", "limits 0 0 0", "exists B x", "meta C !B", "bayes D 0 1000", "body E //"};
        for (int great = 0; great < 2; great++) {
            Desk desk = Desk.with(lines);
            desk.meet(0, "");
            desk.give(0, Desk.message("first words http://a", "X", "y"));
            Desk.due("one ahead", desk.sieve.session(0, 12), 1);
            desk.sieve.clear(0);
            desk.give(0, Desk.message("w".repeat(5990) + " " + "abc ".repeat(2) + (great == 1 ? "xx" : "x"), "X", "http://b"));
            String letters = desk.letters(0);
            Desk.due("its replies", letters.replace("c", ""), great == 1 ? "sa" : "hy");
            Desk.due("its indicator", desk.sieve.indicator(0), great == 1 ? -1.0 : 0.5);
            for (int what = 8; what <= 13; what++) {
                Desk.due("session " + what, desk.sieve.session(0, what) == 0, great == 1 || what == 12);
            }
            Desk.due("held", desk.sieve.held(0, 0), great == 1 ? -1 : 0);
            Desk.due("text", desk.sieve.text(0, 0), great == 1 ? -1 : (int) 'w');
            Desk.due("learn", desk.sieve.learn(0, true), great == 1 ? -1 : 1);
            Desk.due("S", desk.sieve.state(5), great == 1 ? 0 : 1);
            Desk.due("state", desk.sieve.session(0, 0), 3);
            for (int what = 4; what <= 7; what++) {
                Desk.due("no message then: " + what, desk.sieve.session(0, what), 0);
            }
            desk.give(0, Desk.message("next words"));
            Desk.due("the next one", desk.text(0), "next words\n");
            Desk.due("it can be learnt", desk.sieve.learn(0, true), great == 1 ? 2 : 3);
        }
    }

    private static void greatMessagesDoNotWait() {
        Desk.of("Else, while a query for the session's address and a zone of the message's rule set is open, the session WAITS");
        String big = Desk.message("x".repeat(6001));
        Desk desk = Desk.with("zone a");
        desk.meet(0, "10.0.0.1");
        desk.give(0, big);
        Desk.due("a great one does not wait", desk.sieve.session(0, 0), 3);
        desk.give(0, Desk.message("x"));
        Desk.due("another one does", desk.sieve.session(0, 0), 8);
        desk.sieve.tick(4);
        Desk.due("four seconds", desk.sieve.session(0, 0), 8);
        desk.sieve.tick(1);
        Desk.due("five seconds", desk.sieve.session(0, 0), 3);
        desk = Desk.with("zone a");
        desk.meet(1, "10.0.0.1");
        desk.meet(0, "10.0.0.2");
        desk.answer(answerTo(desk, 1, 3));
        desk.give(0, Desk.message("x"));
        Desk.due("a query for another address", desk.sieve.session(0, 0), 3);
        desk.meet(2, "");
        desk.give(2, Desk.message("x"));
        Desk.due("without an address", desk.sieve.session(2, 0), 3);
        desk.meet(3, "10.0.0.1");
        desk.give(3, Desk.message("x"));
        Desk.due("another session's query for the same", desk.sieve.session(3, 0), 8);
        for (int last = 0; last < 3; last++) {
            desk = Desk.with("zone a", "zone b", "zone c", "listed A 2 255");
            desk.meet(0, "10.0.0.1");
            for (int k = 2; k >= 0; k--) {
                if (k != last) {
                    desk.answer(answerTo(desk, k, 2));
                }
            }
            desk.give(0, Desk.message("x"));
            Desk.due("of three zones only zone " + last + " is open", desk.sieve.session(0, 0), 8);
            desk.answer(answerTo(desk, 0, 2));
            Desk.due("none of three zones is open", desk.sieve.session(0, 0), 3);
            desk.give(0, Desk.message("x"));
            Desk.due("judged at once", desk.sieve.session(0, 0), 3);
        }
    }

    /** An answer to the k-th query with a code and no records. */
    private static String answerTo(Desk desk, int k, int code) {
        StringBuilder query = new StringBuilder();
        for (int i = 0; desk.sieve.query(k, i) >= 0; i++) {
            query.append((char) desk.sieve.query(k, i));
        }
        return query.substring(0, 2) + (char) 128 + (char) code + "\0\u0001\0\0\0\0\0\0" + query.substring(12);
    }

    // ---- what holds

    private static void headerRules() {
        Desk.of("header holds when its expression is FOUND in the CHARS of some header with this field (SMALL)");
        String[] lines = {"header A X-Some /^one$/", "header B x-SOME /^two$/", "header C X-Som /./", "header D X-Somes /./",
            "header E X-Some /onetwo/", "header F X-Some /^$/", "header G X-Some /=/"};
        held("0 1", lines, "", "x-some", "one", "X-SOME", " two\r\n");
        held("5", lines, "", "X-Some", "");
        held("", lines, "one");
        held("", lines, "", "X-Some ", "one");
        held("", lines, "", "Y-Some", "one", "XxSome", "one", "X-Somf", "one");
        held("1", lines, "", "X-Some", "=?us-ascii?Q?two?=");
        held("6", lines, "", "X-Some", "=?us-ascii?Q?two?=x=");
    }

    private static void existsRules() {
        Desk.of("exists when there is one");
        String[] lines = {"exists A X-Y", "exists B x-y", "exists C X", "exists D X-Yz"};
        held("0 1", lines, "", "x-Y", "");
        held("2", lines, "", "X", "");
        held("", lines, "", "Y", "", "XxY", "", "Y-Y", "");
        held("", lines, "X-Y: z");
    }

    private static void textRules() {
        Desk.of("body in the TEXT, raw in the RAW TEXT");
        held("1 2", new String[] {"body A /<b>/", "raw B /<b>/", "body C /^a b\\n$/", "raw D /^a b\\n$/"}, "<b>a</b>  b", TYPE, "text/html");
        held("0 1", new String[] {"body A /^$/", "raw B /^$/", "body C /./"}, "", TYPE, "image/x");
    }

    private static void uriRules() {
        Desk.of("uri in some URI");
        String[] lines = {"uri A /^http:..a$/", "uri B /b$/", "uri C /a.*b/", "uri D //"};
        held("0 1 3", lines, "http://a http://b");
        held("", lines, "a b");
        held("1 2 3", lines, "http://ab");
    }

    private static void attach(boolean want, String word, String name) {
        held(want ? "0" : "", new String[] {"attach A " + word}, "x", TYPE, "application/x; name=\"" + name + "\"");
    }

    private static void attachRules() {
        Desk.of("attach when an ATTACHMENT has a parameter name (of its content-type) that ends with . and the word (SMALL)");
        attach(true, "exe", "a.exe");
        attach(true, "EXE", "a.exe");
        attach(true, "exe", "a.EXE");
        attach(true, "exe", ".exe");
        attach(true, "exe", "a.b.exe");
        attach(true, "exe", "..exe");
        attach(false, "exe", "exe");
        attach(false, "exe", "aexe");
        attach(false, "exe", "a.exe.");
        attach(false, "exe", "a.exe ");
        attach(false, "exe", "a.exe.zip");
        attach(false, "exe", "a.xe");
        attach(false, "exe", "a.xxe");
        attach(false, "exe", "a.eee");
        attach(false, "exe", "a.exx");
        attach(false, "exe", "a.eexe");
        attach(false, "exe", "");
        attach(false, "exe", ".");
        attach(true, "1", "a.1");
        attach(true, "12345678", "a.12345678");
        attach(true, "12345678", ".12345678");
        attach(false, "12345678", "12345678");
        attach(false, "12345678", "a12345678");
        attach(false, "2345678", "a.12345678");
        attach(true, "b", "\u00e9.b");
        attachmentsOfOneMessage();
        held("", new String[] {"attach A exe"}, "x", TYPE, "text/plain; name=a.exe");
        held("", new String[] {"attach A exe"}, "x", TYPE, "text/html; name=a.exe");
        held("", new String[] {"attach A exe"}, "x", TYPE, "a/b; filename=a.exe");
        held("", new String[] {"attach A exe"}, "x", TYPE, "a/b; name=a.zip; name=a.exe");
        held("0", new String[] {"attach A exe"}, "x", TYPE, "a/b; NAME=a.exe; name=a.zip");
        held("0", new String[] {"attach A exe"}, "x", TYPE, "text/x; name=a.exe");
        held("", new String[] {"attach A exe"}, "--q--", TYPE, "multipart/x; boundary=q; name=a.exe");
        held("0 1", new String[] {"attach A exe", "attach B zip"}, "--q\n" + TYPE + ": a/b; name=a.exe\n\n--q\n" + TYPE
            + ": a/b; name=b.zip\n\n--q--", TYPE, "multipart/x; boundary=q");
    }

    /** What one message had, the next one has not. */
    private static void attachmentsOfOneMessage() {
        Desk desk = Desk.with("attach A exe");
        String[] types = {"a/b; name=a.exe", "text/plain", "a/b; name=a.exe", "a/b", "a/b; name=a.exe", "text/html; name=a.exe"};
        String[] helds = {"0", "", "0", "", "0", ""};
        for (int i = 0; i < types.length; i++) {
            Desk.due("held of " + types[i], desk.judge("x", TYPE, types[i]).held(0), helds[i]);
            String parted = "--q\n" + TYPE + ": text/plain\n\nx\n--q\n" + TYPE + ": " + types[i] + "\n\nx\n--q--";
            Desk.due("held of a part of " + types[i], desk.judge(parted, TYPE, "multipart/x; boundary=q").held(0), helds[i]);
        }
        desk.judge("--q\n" + TYPE + ": a/b; name=a.exe\n\nx\n--q--", TYPE, "multipart/x; boundary=q");
        Desk.due("fewer parts", desk.judge("x").held(0), "");
    }

    private static void bayesRules() {
        Desk.of("bayes A B when the indicator times 1,000.0 is A or more and below B (of B 1,000: not above)");
        String[] lines = {"bayes A 499 500", "bayes B 500 501", "bayes C 0 500", "bayes D 500 1000", "bayes E 501 1000", "bayes F 0 1000",
            "bayes G 0 501", "bayes H 499 501"};
        held("1 3 5 6 7", lines, "word");
        // an indicator that is 1.0 as a double, and one that is next to 0
        Desk desk = Desk.with("bayes A 999 1000", "bayes B 0 1000", "bayes C 0 999", "bayes D 0 1", "bayes E 1 1000");
        desk.meet(0, "");
        StringBuilder spam = new StringBuilder();
        StringBuilder ham = new StringBuilder();
        for (int i = 0; i < 15; i++) {
            spam.append("spam").append(i).append(" ");
            ham.append("ham").append(i).append(" ");
        }
        for (int i = 0; i < 100; i++) {
            desk.give(0, Desk.message(spam.toString()));
            desk.sieve.learn(0, true);
            desk.give(0, Desk.message(ham.toString()));
            desk.sieve.learn(0, false);
            desk.sieve.clear(0);
            desk.sieve.compact();
        }
        desk.give(0, Desk.message(spam.toString()));
        Desk.due("it is 1.0", desk.sieve.indicator(0), 1.0);
        Desk.due("1.0 is not above 1,000", desk.held(0), "0 1 4");
        desk.give(0, Desk.message(ham.toString()));
        Desk.due("it is next to 0", desk.sieve.indicator(0) < 0.001, true);
        Desk.due("next to 0", desk.held(0), "1 2 3");
    }

    private static void listedRules() {
        Desk.of("listed Z M when the session has an ADDRESS for which the CACHE has a value, still good, of zone Z that has a bit of M");
        Desk desk = Desk.with("zone a", "zone b", "listed A 0 1", "listed B 0 254", "listed C 1 1", "listed D 1 255");
        desk.meet(0, "10.0.0.1");
        String query = answerTo(desk, 0, 0);
        desk.answer(query.substring(0, 7) + "\u0001" + query.substring(8) + "\0\0\u0001\0\u0001\0\0\0\u0009\0\u0004\u007f\0\0\u0001");
        desk.answer(answerTo(desk, 0, 3));
        Desk.due("values", desk.sieve.state(10), 2);
        desk.give(0, Desk.message("x"));
        Desk.due("a bit of zone 0; the value 0 of zone 1", desk.held(0), "0");
        desk.sieve.tick(8);
        desk.give(0, Desk.message("x"));
        Desk.due("still good", desk.held(0), "0");
        desk.sieve.tick(1);
        desk.give(0, Desk.message("x"));
        Desk.due("good no more", desk.held(0), "");
        desk.meet(1, "");
        desk.give(1, Desk.message("x"));
        Desk.due("without an address", desk.held(1), "");
        desk = Desk.with("zone a", "listed A 0 255");
        desk.meet(0, "10.0.0.1");
        query = answerTo(desk, 0, 0);
        desk.answer(query.substring(0, 7) + "\u0001" + query.substring(8) + "\0\0\u0001\0\u0001\0\0\0\u0009\0\u0004\u007f\0\0\u0001");
        desk.give(0, Desk.message("x"));
        Desk.due("with its address", desk.held(0), "0");
        desk.give(0, Desk.packet('K', "") + Desk.client("") + Desk.message("x"));
        Desk.due("with an address no more", desk.held(0), "");
    }

    // ---- scores and replies

    private static void scores() {
        Desk.of("THE SCORE is the sum of the weights of those that hold, in thousandths");
        Desk desk = Desk.with("count A 1", "count B 0", "count C 1", "score A 1.001", "score B 500", "score C -0.002").judge("");
        Desk.due("the sum", desk.sieve.session(0, 8), 999);
        String[] lines = new String[48];
        for (int i = 0; i < 24; i++) {
            lines[2 * i] = "count R" + i + " 1";
            lines[2 * i + 1] = "score R" + i + " -999.999";
        }
        Desk.due("the least sum", Desk.with(lines).judge("").sieve.session(0, 8), -24 * 999999);
        for (int i = 0; i < 24; i++) {
            lines[2 * i + 1] = "score R" + i + " 999.999";
        }
        desk = Desk.with(lines).judge("");
        Desk.due("the greatest sum", desk.sieve.session(0, 8), 24 * 999999);
        Desk.due("all hold", desk.sieve.session(0, 9), 24);
        Desk.due("nothing holds", new Desk().judge("").sieve.session(0, 8), 0);
    }

    /** The letters of a verdict with this score and each of the grants. */
    private static void verdicts(String limits, String score, String... want) {
        for (int g = 0; g < GRANTS.length; g++) {
            Desk desk = Desk.with("count A 1", "score A " + score, "limits " + limits);
            desk.sieve.open(0);
            desk.give(0, Desk.greeting(GRANTS[g]) + Desk.client(""));
            desk.sieve.clear(0);
            desk.give(0, Desk.message("", "Subject", "s"));
            Desk.due("score " + score + ", limits " + limits + ", granted " + GRANTS[g], desk.letters(0).substring(4),
                want[want.length == 1 ? 0 : g]);
        }
    }

    private static void theFirstLimit() {
        Desk.of("if the score is not below the first limit: when 1 is granted, h; and when 0x10 is granted and there is a header whose field is subject, m");
        String[] first = {"a", "ha", "ma", "hma", "a", "ha", "ma", "hma"};
        verdicts("2 4 6", "1.999", "a");
        verdicts("2 4 6", "2", first);
        verdicts("2 4 6", "2.001", first);
        verdicts("-2 4 6", "-2.001", "a");
        verdicts("-2 4 6", "-2", first);
        verdicts("0 4 6", "-0.001", "a");
        verdicts("0 4 6", "0", first);
        Desk without = Desk.with("limits 0 1 1").judge("", "Subjects", "s");
        without.give(0, Desk.message("", "X", "subject"));
        Desk.due("no m without a subject", without.letters(0).substring(4), "ha");
    }

    private static void theSecondLimit() {
        Desk.of("If it is not below the second limit, but below the third, and 0x20 is granted, q; t when it is not below the second one, but 0x20 is not granted; else a");
        String[] first = {"a", "ha", "ma", "hma", "a", "ha", "ma", "hma"};
        String[] second = {"t", "ht", "mt", "hmt", "qa", "hqa", "mqa", "hmqa"};
        verdicts("2 4 6", "3.999", first);
        verdicts("2 4 6", "4", second);
        verdicts("2 4 6", "4.001", second);
        verdicts("2 4 6", "5.999", second);
    }

    private static void theThirdLimit() {
        Desk.of("y when it is not below the third limit");
        String[] third = {"y", "hy", "my", "hmy", "y", "hy", "my", "hmy"};
        verdicts("2 4 6", "6", third);
        verdicts("2 4 6", "6.001", third);
        verdicts("2 4 6", "999.999", third);
        verdicts("-3 -2 -1", "-1", third);
        verdicts("-3 -2 -1", "-1.001", "t", "ht", "mt", "hmt", "qa", "hqa", "mqa", "hmqa");
    }

    private static void limitsThatAreTheSame() {
        Desk.of("limits: one may be as the one before");
        String[] first = {"a", "ha", "ma", "hma", "a", "ha", "ma", "hma"};
        String[] second = {"t", "ht", "mt", "hmt", "qa", "hqa", "mqa", "hmqa"};
        String[] third = {"y", "hy", "my", "hmy", "y", "hy", "my", "hmy"};
        verdicts("2 2 6", "1.999", "a");
        verdicts("2 2 6", "2", second);
        verdicts("2 4 4", "3.999", first);
        verdicts("2 4 4", "4", third);
        verdicts("2 2 2", "1.999", "a");
        verdicts("2 2 2", "2", third);
    }

    private static void limitsThatDoNotRise() {
        Desk.of("-100, when none is BAD, but limits do not rise (one may be as the one before); nothing is done then");
        String[] limits = {"1 1 1", "1 2 3", "1 1 2", "1 2 2", "-1 0 1", "-2 -1.001 -1", "1.001 1 2", "1 2 1.999", "2 1 3", "3 2 1", "1 3 2",
            "0 -0.001 5", "-1 -2 0"};
        int rising = 6;
        for (int i = 0; i < limits.length; i++) {
            Desk desk = new Desk();
            desk.line("count A 1");
            desk.line("limits " + limits[i]);
            Desk.due("load of limits " + limits[i], desk.sieve.load(), i < rising ? 1 : -100);
            Desk.due("rules then", desk.sieve.state(1), i < rising ? 1 : 0);
        }
        Desk desk = new Desk();
        desk.line("limits 3 2 1");
        desk.line("meta A B");
        Desk.due("a bad rule goes ahead", desk.sieve.load(), -1);
    }

    private static String verdict(Desk desk, String... headers) {
        desk.meet(0, "");
        desk.give(0, Desk.message("", headers));
        return desk.output(0).substring(15 + 5 * (headers.length / 2));
    }

    private static void theMark() {
        Desk.of("h: \"X-Sieve\", 0, THE SCORE'S TEXT, a blank, the names of those that hold, in ORDER, with \",\" between, 0");
        Desk.due("none holds", verdict(Desk.with("limits 0 1 1")), Desk.packet('h', "X-Sieve\u00000.000 \0") + Desk.packet('a', ""));
        Desk.due("one holds", verdict(Desk.with("limits 0 2 2", "count ONE 1", "count TWO 0")), Desk.packet('h', "X-Sieve\u00001.000 ONE\0")
            + Desk.packet('a', ""));
        Desk.due("two hold, in order", verdict(Desk.with("limits 0 9 9", "count ONE 1", "count TWO 1", "priority TWO -1")), Desk.packet('h',
            "X-Sieve\u00002.000 TWO,ONE\0") + Desk.packet('a', ""));
        StringBuilder names = new StringBuilder();
        String[] lines = new String[25];
        for (int i = 0; i < 24; i++) {
            lines[i] = "count N" + "X".repeat(13) + (10 + i) + " 1";
            names.append(i == 0 ? "" : ",").append("N").append("X".repeat(13)).append(10 + i);
        }
        lines[24] = "limits 0 99 99";
        Desk.due("24 names of 16", verdict(Desk.with(lines)), Desk.packet('h', "X-Sieve\u000024.000 " + names + "\0") + Desk.packet('a', ""));
    }

    private static void theSubject() {
        Desk.of("m: 1 in four bytes, the name of the first such one as it is, 0, \"[SPAM] \" and its unfolded value's bytes, 0");
        String h = Desk.packet('h', "X-Sieve\u00000.000 \0");
        String a = Desk.packet('a', "");
        Desk.due("as it is", verdict(Desk.with("limits 0 1 1"), "X", "y", "sUBJect", " =?utf-8?Q?a?=\r\n b\u00e9\t", "Subject", "z"), h
            + Desk.packet('m', "\0\0\0\u0001sUBJect\0[SPAM] =?utf-8?Q?a?= b\u00e9\0") + a);
        Desk.due("an empty one", verdict(Desk.with("limits 0 1 1"), "Subject", ""), h + Desk.packet('m', "\0\0\0\u0001Subject\0[SPAM] \0") + a);
        Desk.due("of blanks alone", verdict(Desk.with("limits 0 1 1"), "SUBJECT", " \r\n\t"), h + Desk.packet('m', "\0\0\0\u0001SUBJECT\0[SPAM] \0")
            + a);
        String longest = "s".repeat(2038);
        Desk.due("a length above 2,048", verdict(Desk.with("limits 0 1 1"), "Subject", longest), h + Desk.packet('m', "\0\0\0\u0001Subject\0[SPAM] "
            + longest + "\0") + a);
    }

    private static void theScoresText() {
        Desk.of("THE TEXT: - if it is below 0, the whole thousands, ., three digits");
        String[] scores = {"0", "0.001", "0.010", "0.100", "0.999", "1", "1.001", "9.999", "10", "10.01", "99.9", "100", "999.999", "-0", "-0.001",
            "-0.100", "-1", "-10.5", "-999.999"};
        String[] texts = {"0.000", "0.001", "0.010", "0.100", "0.999", "1.000", "1.001", "9.999", "10.000", "10.010", "99.900", "100.000", "999.999",
            "0.000", "-0.001", "-0.100", "-1.000", "-10.500", "-999.999"};
        for (int i = 0; i < scores.length; i++) {
            Desk low = Desk.with("limits -999.999 999.999 999.999", "count A 1", "score A " + scores[i]);
            if (!scores[i].equals("999.999")) {
                Desk.due("the text in h", verdict(low), Desk.packet('h', "X-Sieve\0" + texts[i] + " A\0") + Desk.packet('a', ""));
            }
            Desk middle = Desk.with("limits -999.999 -999.999 999.999", "count A 1", "score A " + scores[i]);
            if (!scores[i].equals("999.999")) {
                Desk.due("the text in q", verdict(middle).endsWith(Desk.packet('q', "score " + texts[i] + "\0") + Desk.packet('a', "")), true);
            }
            Desk high = Desk.with("limits -999.999 -999.999 -999.999", "count A 1", "score A " + scores[i]);
            Desk.due("the text in y", verdict(high).endsWith(Desk.packet('y', "550 5.7.1 score " + texts[i] + "\0")), true);
        }
        String[] lines = new String[49];
        for (int i = 0; i < 24; i++) {
            lines[2 * i] = "count R" + i + " 1";
            lines[2 * i + 1] = "score R" + i + " 999.999";
        }
        lines[48] = "limits 0 0 0";
        Desk.due("the greatest", verdict(Desk.with(lines)).endsWith("score 23999.976\0"), true);
    }

    private static void heldInOrder() {
        Desk.of("then the rules are gone through in ORDER");
        held("2 1 0", new String[] {"meta A B", "meta B C", "count C 1"}, "");
        held("1 2", new String[] {"count A 0", "meta B !A", "meta C B"}, "");
        held("3 1", new String[] {"meta A !B", "meta B C||D", "count C 0", "count D 1", "priority D -1"}, "");
    }
}
