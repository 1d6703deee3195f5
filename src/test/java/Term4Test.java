import java.util.Random;

/** Term 4, sentence by sentence: each place at which a line is wrong, each line that is refused, loading and the order. */
public final class Term4Test {
    private static final Desk DESK = new Desk();
    private static final String[] RIGHT = {"clear", "header ABC X-Y /a(b|c)*[d-f]{2,3}\\d/i", "header A B //", "exists A_9 Date", "body A /x/",
        "raw A /x/i", "uri A /x/", "attach A exe1", "bayes A 12 345",
        "listed A 0 255", "meta A B&&(C||!D)&&G==12+E-3||H<I&&J>1", "count A parts 1 + chars * lines - heads < rcpts = uris & caps | size ! 1 + +",
            "score A -123.456", "score A 1",
        "priority A -12", "priority A 9", "zone ab-1.c2.d", "grey 3600", "limits 1 2.5 -3.125"};

    public static void main(String[] args) {
        theDraftAtFirst();
        blanks();
        eachPlace();
        bytesThatAreNone();
        firstWords();
        names();
        fields();
        attachWords();
        flags();
        numbers();
        weights();
        priorities();
        zones();
        expressions();
        metas();
        nesting();
        programs();
        rowOfTwelve();
        newRulesRefused();
        weighingRefused();
        zonesRefused();
        numbersRefused();
        limitsRefused();
        wrongGoesAheadOfRefused();
        untilTheseAreTold();
        valuesOfMetas();
        valuesOfPrograms();
        longestPrograms();
        badMetas();
        badRings();
        badListed();
        order();
        Desk.end();
    }

    /** What an empty draft answers to a line, whatever stands behind it on the tape. */
    private static void answers(String line, int want) {
        for (String behind : new String[] {"", " ", "1", "x", "X", "/", "/i", "i", ")", ".5", " +"}) {
            DESK.line("clear");
            DESK.tape(Desk.bytes(line + behind));
            Desk.due("line " + line + " with " + behind + " behind it", DESK.sieve.line(line.length()), want);
        }
    }

    private static void wrong(String line, int place) {
        answers(line, place + 1);
    }

    private static void right(String line) {
        answers(line, 0);
    }

    /** Right, but of a name or value that makes the draft refuse it. */
    private static void refused(String line) {
        answers(line, -2);
    }

    private static String lettersFor(Desk desk) {
        desk.meet(0, "10.0.0.1");
        desk.give(0, Desk.message("", "Subject", "s"));
        return desk.letters(0).substring(4);
    }

    // ---- the draft

    private static void theDraftAtFirst() {
        Desk.of("a DRAFT (no rules, no zones, limits 5.000 8.000 15.000, grey 0 at first); clear (the draft is as at first)");
        for (int cleared = 0; cleared < 2; cleared++) {
            String[] weights = {"4.999", "5", "7.999", "8", "14.999", "15"};
            String[] letters = {"a", "hma", "hma", "hmqa", "hmqa", "hmy"};
            for (int i = 0; i < weights.length; i++) {
                Desk desk = new Desk();
                if (cleared == 1) {
                    for (String line : new String[] {"count Z 1", "zone z", "grey 5", "limits 0 0 0", "clear"}) {
                        Desk.due("line " + line, desk.line(line), 0);
                    }
                }
                Desk.due("no rules", desk.sieve.state(3), 0);
                desk.line("count A 1");
                desk.line("score A " + weights[i]);
                Desk.due("load", desk.sieve.load(), 1);
                Desk.due("no zones", desk.sieve.state(2), 0);
                Desk.due("limits at " + weights[i], lettersFor(desk), letters[i]);
                Desk.due("grey 0", desk.sieve.state(11), 0);
                Desk.due("nothing looked up", desk.sieve.state(9), 0);
            }
        }
        Desk desk = new Desk();
        for (int i = 0; i < 24; i++) {
            desk.line("count R" + i + " 1");
        }
        desk.line("zone a");
        desk.line("zone b");
        desk.line("zone c");
        desk.line("clear");
        Desk.due("room for rules again", desk.line("count R0 1"), 0);
        Desk.due("room for zones again", desk.line("zone a"), 0);
        Desk.due("its first number again", desk.sieve.state(3), 1);
    }

    // ---- where a line is wrong

    private static void blanks() {
        Desk.of("words have one blank between");
        for (String line : RIGHT) {
            for (int i = 0; i < line.length(); i++) {
                if (line.charAt(i) == ' ') {
                    wrong(line.substring(0, i) + " " + line.substring(i), i + 1);
                    wrong(line.substring(0, i) + "\t" + line.substring(i + 1), i);
                }
            }
            wrong(" " + line, 0);
            wrong(line + " ", line.length() + (line.startsWith("count") ? 1 : 0));
        }
        wrong("", 0);
    }

    private static void eachPlace() {
        Desk.of("A line is WRONG at the first sign with which no right line begins (at its length, when it ends too soon)");
        for (String line : RIGHT) {
            boolean done = new Desk().line(line) == 0 || line.startsWith("score") || line.startsWith("priority");
            Desk.due("right: " + line, done, true);
            for (int i = 0; i < line.length(); i++) {
                String ahead = line.substring(0, i);
                int got = new Desk().line(ahead);
                Desk.due("the first " + i + " of " + line, got == 0 || got == -2 || got == i + 1, true);
                Desk.due("a sign that stands nowhere at " + i + " of " + line, new Desk().line(ahead + "\u0001" + line.substring(i + 1)), i + 1);
            }
        }
        Random random = new Random(4);
        String signs = "aAbBzZ019 _-./\\()[]{}*+?|&=<>!,^$~";
        int wrongs = 0;
        for (int i = 0; i < 4000; i++) {
            StringBuilder all = new StringBuilder(RIGHT[random.nextInt(RIGHT.length)]);
            for (int k = 1 + random.nextInt(2); k > 0; k--) {
                int at = random.nextInt(all.length());
                if (random.nextBoolean()) {
                    all.setCharAt(at, signs.charAt(random.nextInt(signs.length())));
                } else {
                    all.insert(at, signs.charAt(random.nextInt(signs.length())));
                }
            }
            String line = all.toString();
            int place = new Desk().line(line) - 1;
            if (place < 0 || place >= line.length()) {
                continue;
            }
            wrongs++;
            for (int k = 0; k < 3; k++) {
                String other = line.substring(0, place + 1) + signs.charAt(random.nextInt(signs.length()))
                    + line.substring(random.nextInt(line.length()));
                Desk.due("no right line begins with the wrong sign of " + line + ", as in " + other, new Desk().line(other), place + 1);
            }
            int soon = new Desk().line(line.substring(0, place));
            Desk.due("what is ahead of the wrong sign of " + line, soon == 0 || soon == -2 || soon == place + 1, true);
        }
        Desk.due("many were wrong", wrongs > 1000, true);
    }

    private static void bytesThatAreNone() {
        Desk.of("LINES of signs 32 to 126 (a byte that is not 32 to 126 is wrong wherever it stands)");
        for (int c : new int[] {0, 1, 9, 10, 13, 31, 127, 128, 255}) {
            String sign = "" + (char) c;
            wrong(sign, 0);
            wrong("cl" + sign + "ar", 2);
            wrong("clear" + sign, 5);
            wrong("body A /a" + sign + "/", 9);
            wrong("body A /a/" + sign, 10);
            wrong("exists A a" + sign, 10);
            wrong("zone a" + sign, 6);
            wrong("count A 1" + sign, 9);
            wrong("meta A B" + sign, 8);
            wrong("score A 1" + sign, 9);
            wrong("x" + sign, 0);
        }
    }

    private static void firstWords() {
        Desk.of("clear. header. exists. body. raw. uri. attach. bayes. listed. meta. count. score. priority. zone. grey. limits");
        String[] words = {"clear", "header", "exists", "body", "raw", "uri", "attach", "bayes", "listed", "meta", "count", "score", "priority",
            "zone", "grey", "limits"};
        for (String word : words) {
            for (int i = 0; i < word.length(); i++) {
                wrong(word.substring(0, i), i);
                wrong(word.substring(0, i) + "~", i);
                wrong(word.substring(0, i) + Character.toUpperCase(word.charAt(i)), i);
            }
            if (!word.equals("clear")) {
                wrong(word, word.length());
                wrong(word + "x", word.length());
                wrong(word + " ", word.length() + 1);
            }
        }
        wrong("co", 2);
        wrong("cox", 2);
        wrong("clunt", 2);
        wrong("bo", 2);
        wrong("bayer", 4);
        wrong("lis", 3);
        wrong("lim", 3);
        wrong("lio", 2);
        wrong("rax", 2);
        wrong("clearx", 5);
        wrong("clear x", 5);
        wrong("yes", 0);
    }

    private static void names() {
        Desk.of("NAME: a great letter, then great letters, digits, _ (16 in all at most); wrong also at a 17th sign of a NAME");
        for (int c = 32; c < 127; c++) {
            boolean great = c >= 'A' && c <= 'Z';
            boolean more = great || c >= '0' && c <= '9' || c == '_';
            if (great) {
                right("exists " + (char) c + " x");
            } else {
                wrong("exists " + (char) c + " x", 7);
                wrong("meta A " + (c == '!' || c == '(' || c >= '0' && c <= '9' ? "~" : "" + (char) c), 7);
            }
            if (more) {
                right("exists A" + (char) c + " x");
                right("meta A B" + (char) c);
            } else if (c != ' ') {
                wrong("exists A" + (char) c + " x", 8);
            }
        }
        for (String kind : new String[] {"exists", "score", "meta"}) {
            String rest = kind.equals("exists") ? " x" : " 1";
            int from = kind.length() + 1;
            for (int length : new int[] {1, 15, 16}) {
                Desk.due(kind + " of a name of " + length, new Desk().line(kind + " " + "N".repeat(length) + rest), kind.equals("score") ? -2 : 0);
            }
            for (int length : new int[] {17, 18, 40}) {
                wrong(kind + " " + "N".repeat(length) + rest, from + 16);
            }
            wrong(kind + " " + "N".repeat(16), from + 16);
            wrong(kind + " " + "N".repeat(16) + "x", from + 16);
        }
        right("meta A " + "B".repeat(16));
        wrong("meta A " + "B".repeat(17), 23);
        wrong("meta A 1+" + "B".repeat(16) + "_", 25);
        right("meta A " + "B".repeat(16) + "+" + "C".repeat(16));
    }

    private static void fields() {
        Desk.of("FIELD: letters and - (1 to 24); wrong also at a 25th of a FIELD");
        for (int length : new int[] {1, 23, 24}) {
            right("exists A " + "f".repeat(length));
            right("header A " + "F".repeat(length) + " /x/");
        }
        for (int length : new int[] {25, 26, 50}) {
            wrong("exists A " + "f".repeat(length), 33);
            wrong("header A " + "-".repeat(length) + " /x/", 33);
        }
        wrong("exists A ", 9);
        wrong("header A ", 9);
        wrong("header A  /x/", 9);
        for (int c = 33; c < 127; c++) {
            boolean sign = Character.isLetter(c) || c == '-';
            Desk.due("the field " + (char) c, new Desk().line("exists A " + (char) c), sign ? 0 : 10);
            Desk.due("the field a" + (char) c, new Desk().line("exists A a" + (char) c), sign ? 0 : 11);
        }
    }

    private static void attachWords() {
        Desk.of("WORD (letters and digits, 1 to 8); wrong also at a 9th of a WORD");
        for (int length : new int[] {1, 7, 8}) {
            right("attach A " + "w".repeat(length));
        }
        for (int length : new int[] {9, 10, 30}) {
            wrong("attach A " + "w".repeat(length), 17);
        }
        wrong("attach A ", 9);
        wrong("attach A 12345678 ", 17);
        for (int c = 33; c < 127; c++) {
            boolean sign = Character.isLetterOrDigit(c);
            Desk.due("the word " + (char) c, new Desk().line("attach A " + (char) c), sign ? 0 : 10);
            Desk.due("the word a" + (char) c, new Desk().line("attach A a" + (char) c), sign ? 0 : 11);
        }
    }

    private static void flags() {
        Desk.of("RE: / and a regular expression and /, and perhaps i, the flag");
        for (String kind : new String[] {"body A ", "raw A ", "uri A ", "header A x "}) {
            int at = kind.length();
            right(kind + "//");
            right(kind + "//i");
            right(kind + "/a/");
            right(kind + "/a/i");
            wrong(kind, at);
            wrong(kind + "a", at);
            wrong(kind + "/", at + 1);
            wrong(kind + "/a", at + 2);
            wrong(kind + "/a/I", at + 3);
            wrong(kind + "/a/ii", at + 4);
            wrong(kind + "/a/ i", at + 3);
            wrong(kind + "/a/i ", at + 4);
            wrong(kind + "/a//", at + 3);
            wrong(kind + "/a/b/", at + 3);
        }
        Desk desk = Desk.with("body A /word/", "body B /word/i", "body C /WORD/i").judge("WORD");
        Desk.due("with it and without", desk.held(0), "1 2");
    }

    private static void numbers() {
        Desk.of("n: one to four digits");
        String[] kinds = {"bayes A 0 ", "listed A 0 ", "grey ", "score A ", "score A -", "priority A ", "priority A -", "limits 1 2 ", "meta A ",
            "meta A 1+", "count A ", "count A 1 "};
        for (String kind : kinds) {
            wrong(kind, kind.length());
            wrong(kind + "x", kind.length());
            for (int length = 1; length <= 4; length++) {
                int got = new Desk().line(kind + "1".repeat(length) + (kind.equals("count A 1 ") ? " +" : ""));
                Desk.due(kind + length + " digits", got == 0 || got == -2, true);
                Desk.due(kind + length + " digits with 0 ahead", new Desk().line(kind + "0001".substring(4 - length)
                    + (kind.equals("count A 1 ") ? " +" : "")) == 0 || kind.startsWith("score") || kind.startsWith("priority"), true);
            }
            wrong(kind + "11111", kind.length() + 4);
            wrong(kind + "00000", kind.length() + 4);
        }
        wrong("bayes A 1111", 12);
        wrong("bayes A 11111 2", 12);
        wrong("bayes A 1 2 ", 11);
        wrong("listed A -1 2", 9);
        wrong("grey 1.5", 6);
        wrong("limits 1", 8);
        wrong("limits 1 ", 9);
        wrong("limits 1 2", 10);
        wrong("limits 1 2 3 4", 12);
    }

    private static void weights() {
        Desk.of("W: perhaps -, n, and perhaps . and one to three digits: thousandths");
        String[] texts = {"0", "1", "12", "123", "0001", "0.1", "0.01", "0.001", "1.5", "1.50", "1.500", "999.999", "-0", "-0.001", "-1.5",
            "-999.999", "0999.9"};
        int[] thousandths = {0, 1000, 12000, 123000, 1000, 100, 10, 1, 1500, 1500, 1500, 999999, 0, -1, -1500, -999999, 999900};
        for (int i = 0; i < texts.length; i++) {
            Desk desk = Desk.with("count A 1", "score A " + texts[i]).judge("");
            Desk.due("score " + texts[i], desk.sieve.session(0, 8), thousandths[i]);
            Desk.due("limits of " + texts[i], new Desk().line("limits " + texts[i] + " " + texts[i] + " " + texts[i]), 0);
        }
        String[] wrongs = {"", "-", "--1", "+1", ".", ".5", "-.5", "1.", "1.x", "1.1234", "1.0000", "12345", "1,5", "1.5.5", "1-", "x"};
        int[] places = {0, 1, 1, 0, 0, 0, 1, 2, 2, 5, 5, 4, 1, 3, 1, 0};
        for (int i = 0; i < wrongs.length; i++) {
            wrong("score A " + wrongs[i], 8 + places[i]);
            wrong("limits " + wrongs[i], 7 + places[i]);
            wrong("limits 1 -2.5 " + wrongs[i], 14 + places[i]);
        }
    }

    private static void priorities() {
        Desk.of("priority NAME n or - and n");
        for (String text : new String[] {"0", "-0", "9", "99", "-99", "0099", "-0001"}) {
            Desk desk = new Desk();
            desk.line("exists A x");
            Desk.due("priority " + text, desk.line("priority A " + text), 0);
        }
        String[] wrongs = {"", "-", "--1", "+1", "1.5", "1.", "12345", "-12345", "1 ", "x"};
        int[] places = {0, 1, 1, 0, 1, 1, 4, 5, 1, 0};
        for (int i = 0; i < wrongs.length; i++) {
            wrong("priority A " + wrongs[i], 11 + places[i]);
        }
    }

    private static void zones() {
        Desk.of("zone LABELS (each 1 to 20 of a to z, digits, -; a . between); wrong also at a 21st of a LABEL");
        for (int length : new int[] {1, 19, 20}) {
            right("zone " + "a".repeat(length));
            right("zone " + "a".repeat(length) + ".b");
            right("zone b." + "a".repeat(length));
        }
        for (int length : new int[] {21, 22, 39, 40, 41}) {
            wrong("zone " + "a".repeat(length), 25);
            wrong("zone b." + "a".repeat(length), 27);
            wrong("zone " + "a".repeat(length) + ".b", 25);
        }
        for (int c = 33; c < 127; c++) {
            boolean sign = c >= 'a' && c <= 'z' || c >= '0' && c <= '9' || c == '-';
            Desk.due("the zone " + (char) c, new Desk().line("zone " + (char) c), sign ? 0 : 6);
            Desk.due("the zone a" + (char) c, new Desk().line("zone a" + (char) c), sign ? 0 : c == '.' ? 8 : 7);
        }
        wrong("zone ", 5);
        wrong("zone .a", 5);
        wrong("zone a.", 7);
        wrong("zone a..b", 7);
        wrong("zone a.b.", 9);
        wrong("zone a b", 6);
        Desk.of("40 signs in all at most; wrong also at a 41st of a zone (at its place, also where its 40th is a point: behind that)");
        String a20 = "a".repeat(20);
        right("zone " + a20 + "." + "b".repeat(18));
        right("zone " + a20 + "." + "b".repeat(19));
        wrong("zone " + a20 + "." + "b".repeat(20), 45);
        wrong("zone " + a20 + "." + "b".repeat(19) + ".", 45);
        wrong("zone " + a20 + "." + "b".repeat(19) + ".c", 45);
        wrong("zone " + a20 + "." + "b".repeat(19) + "~", 45);
        right("zone " + "a.".repeat(19) + "b");
        right("zone " + "a.".repeat(19) + "bc");
        wrong("zone " + "a.".repeat(19) + "bcd", 45);
        wrong("zone " + "a.".repeat(19) + "bc.", 45);
        wrong("zone " + "a.".repeat(20), 45);
        wrong("zone " + "a.".repeat(20) + "b", 45);
        wrong("zone " + "a.".repeat(20) + ".", 45);
        wrong("zone " + "a.".repeat(20) + "~", 45);
        wrong("zone " + "a.".repeat(19) + "a~", 44);
        wrong("zone " + a20 + "." + "b".repeat(18) + ".", 45);
        wrong("zone " + a20 + "." + "b".repeat(18) + ".c", 45);
    }

    private static void expressions() {
        Desk.of("and as 3 says in an expression, the closing / being its length");
        wrong("body A /(/", 9);
        wrong("body A /a{2/", 11);
        wrong("body A /[a-/", 11);
        wrong("body A /[/]/", 9);
        wrong("body A /\\/", 9);
        wrong("body A /\\//", 9);
        wrong("body A /)/", 8);
        wrong("body A /a**/i", 10);
        wrong("header A x /*/", 12);
        wrong("body A /(a{20}){20}(a{20}){10}b/", 31);
        wrong("body A /(a{20}){20}(a{20}){10}b", 31);
        right("body A /(a{20}){20}(a{20}){10}/");
    }

    private static void metas() {
        Desk.of("EXPRESSION, without blanks: or: and (\"||\" and)*. and: compare (\"&&\" compare)*. compare: sum ((\"<\" | \">\" | \"==\") sum)?. sum: one ((\"+\" | \"-\") one)*. one: \"!\" one | \"(\" or \")\" | n | NAME");
        for (String all : new String[] {"B", "1", "!B", "!!B", "!1", "(B)", "((B))", "B||C", "B&&C", "B||C||D", "B&&C&&D", "B<C", "B>C", "B==C",
            "B+C", "B-C", "B+C-D+1", "B<C&&D>E||F==G", "(B<C)<D", "!(B||C)", "!B+1", "B<C||D<E", "B-1<C+2", "!(B)&&!C", "B<(C<D)", "1-2", "B+!C"}) {
            right("meta A " + all);
        }
        String[] wrongs = {"", "b", "~", "|", "&", "<", ">", "=", "+", "-", ")", "/", "*", "()", "B)", "(B", "(B))", "B|", "B||", "B|C", "B|&C",
            "B|||C", "B&", "B&&", "B&C", "B&&&C", "B=", "B=C", "B==", "B===C", "B<", "B<<C", "B<=C", "B<C<D", "B<C>D", "B<C==D", "B==C==D",
            "B>", "B>>C", "B>=C", "B+", "B++C", "B+-C", "B-", "B--C", "B*C", "B/C", "!", "!)", "!+B", "!|", "B!", "B!C", "B(", "B(C)", "(B)C",
                "(B)(C)", "1B", "1(", "B C", "B ", " B", "B&& C", "(B<C<D)", "(", "((", "B||(", "12345", "B_c", "Bc"};
        int[] places = {0, 0, 0, 0, 0, 0, 0, 0, 0, 0, 0, 0, 0, 1, 1, 2, 3, 2, 3, 2, 2, 3, 2, 3, 2, 3, 2, 2, 3, 3, 2, 2, 2, 3, 3, 3, 4,
            2, 2, 2, 2, 2, 2, 2, 2, 1, 1, 1, 1, 1, 1, 1, 1, 1, 1, 3, 3, 1, 1, 1, 1, 0, 3, 4, 1, 2, 4, 4, 2, 1};
        for (int i = 0; i < wrongs.length; i++) {
            wrong("meta A " + wrongs[i], 7 + places[i]);
        }
    }

    private static void nesting() {
        Desk.of("A ! or ( within 10 others is wrong (at it)");
        right("meta A " + "!".repeat(10) + "B");
        wrong("meta A " + "!".repeat(11) + "B", 17);
        right("meta A " + "(".repeat(10) + "B" + ")".repeat(10));
        wrong("meta A " + "(".repeat(11) + "B" + ")".repeat(11), 17);
        right("meta A " + "(!".repeat(5) + "B" + ")".repeat(5));
        wrong("meta A " + "(!".repeat(5) + "(B", 17);
        wrong("meta A " + "!(".repeat(5) + "!B", 17);
        right("meta A " + "!".repeat(10) + "B+" + "!".repeat(10) + "C");
        right("meta A " + "(".repeat(9) + "B+(C)+!D" + ")".repeat(9));
        wrong("meta A " + "(".repeat(9) + "B+(C+!D)", 7 + 9 + 5);
        wrong("meta A " + "!".repeat(9) + "(!B)", 17);
        right("meta A " + "!".repeat(9) + "(B)+!C");
        wrong("meta A " + "(".repeat(10), 17);
    }

    private static void programs() {
        Desk.of("PROGRAM: words; it is wrong at the first sign of a word that finds too few; at its length when not just one is left");
        for (String word : new String[] {"parts", "chars", "lines", "heads", "rcpts", "uris", "caps", "size", "0", "9999"}) {
            right("count A " + word);
            right("count A " + word + " !");
            for (int i = 1; i < word.length() && Character.isLetter(word.charAt(0)); i++) {
                wrong("count A " + word.substring(0, i), 8 + i);
                wrong("count A " + word.substring(0, i) + "~", 8 + i);
                wrong("count A " + word.substring(0, i) + " 1", 8 + i);
            }
            wrong("count A " + word + "x", 8 + word.length());
            wrong("count A " + word + "x +", 8 + word.length());
            wrong("count A " + word + " " + word, 9 + 2 * word.length());
            wrong("count A " + word + " ", 9 + word.length());
        }
        for (String sign : new String[] {"+", "-", "*", "<", "=", "&", "|"}) {
            wrong("count A " + sign, 8);
            wrong("count A 1 " + sign, 10);
            right("count A 1 2 " + sign);
            wrong("count A 1 2 " + sign + sign, 13);
            wrong("count A 1 2 " + sign + " " + sign, 14);
            right("count A 1 2 3 " + sign + " " + sign);
            wrong("count A 1 2 3 " + sign, 15);
        }
        wrong("count A !", 8);
        right("count A 1 !");
        right("count A 1 ! ! !");
        wrong("count A 1 2 !", 13);
        wrong("count A", 7);
        wrong("count A ", 8);
        wrong("count A 1 2", 11);
        wrong("count A 1 /", 10);
        wrong("count A 1 2 >", 12);
        wrong("count A 1 2 ==", 13);
        wrong("count A 1 2 &&", 13);
        wrong("count A -1", 8);
        wrong("count A 1 -1", 10);
        wrong("count A 1 2 -1", 13);
        wrong("count A Parts", 8);
        wrong("count A 1.5", 9);
    }

    private static void rowOfTwelve() {
        Desk.of("They go on a row of ints (at most 12); wrong at the first sign of a word that would be the 13th on the row");
        for (int n : new int[] {11, 12}) {
            right("count A" + " 1".repeat(n) + " +".repeat(n - 1));
            wrong("count A" + " 1".repeat(n), 7 + 2 * n);
        }
        wrong("count A" + " 1".repeat(13), 7 + 2 * 12 + 1);
        wrong("count A" + " 1".repeat(13) + " +".repeat(12), 7 + 2 * 12 + 1);
        wrong("count A" + " 1".repeat(12) + " parts", 7 + 2 * 12 + 1);
        wrong("count A" + " 1".repeat(12) + " x", 7 + 2 * 12 + 1);
        right("count A" + " 1".repeat(12) + " +" + " 1" + " +".repeat(11));
        wrong("count A" + " 1".repeat(12) + " ! 1", 7 + 2 * 13 + 1);
        right("count A" + " 1".repeat(12) + " + 1 + 1 + 1" + " +".repeat(11));
        wrong("count A" + " 1".repeat(12) + " + 1 1", 7 + 2 * 14 + 1);
        Desk desk = Desk.with("count A" + " 1".repeat(12) + " +".repeat(11) + " 12 =").judge("");
        Desk.due("twelve are added", desk.held(0), "0");
    }

    // ---- what is refused

    private static void newRulesRefused() {
        Desk.of("REFUSED, and nothing is done: a new rule whose name is there, or when there are 24");
        String[] kinds = {"header # x /a/", "exists # x", "body # /a/", "raw # /a/", "uri # /a/", "attach # x", "bayes # 0 1", "listed # 0 1",
            "meta # 1", "count # 1"};
        for (String kind : kinds) {
            Desk desk = new Desk();
            Desk.due("at first " + kind, desk.line(kind.replace("#", "A")), 0);
            for (String other : kinds) {
                Desk.due("its name again " + other, desk.line(other.replace("#", "A")), -2);
            }
            Desk.due("another name " + kind, desk.line(kind.replace("#", "AB")), 0);
            Desk.due("rules", desk.sieve.state(3), 2);
        }
        for (String kind : kinds) {
            Desk desk = new Desk();
            for (int i = 0; i < 23; i++) {
                desk.line("exists R" + i + " x");
            }
            Desk.due("the 24th " + kind, desk.line(kind.replace("#", "A")), 0);
            Desk.due("the 25th " + kind, desk.line(kind.replace("#", "B")), -2);
            Desk.due("rules", desk.sieve.state(3), 24);
            Desk.due("it was not taken", desk.line("score B 1"), -2);
            Desk.due("the 24th was", desk.line("score A 1"), 0);
        }
        Desk desk = Desk.with("count A 1");
        Desk.due("refused", desk.line("count A 0"), -2);
        desk.sieve.load();
        Desk.due("the first one stays", desk.judge("").held(0), "0");
    }

    private static void weighingRefused() {
        Desk.of("REFUSED: score and priority of a name that is not there; W above 999.999 in size; a priority above 99 in size");
        refused("score A 1");
        refused("priority A 1");
        Desk desk = new Desk();
        desk.line("count AB 1");
        desk.line("count A 1");
        Desk.due("a shorter name", desk.line("score ABC 1"), -2);
        Desk.due("a score", desk.line("score A 7.5"), 0);
        for (String weight : new String[] {"1000", "1000.0", "1000.001", "9999", "-1000", "-1000.000", "-9999.999"}) {
            Desk.due("score " + weight, desk.line("score A " + weight), -2);
        }
        desk.sieve.load();
        Desk.due("it stays 7.5", desk.judge("").sieve.session(0, 8), 8500);
        Desk.due("the greatest", desk.line("score A 999.999"), 0);
        desk.sieve.load();
        Desk.due("it is told", desk.judge("").sieve.session(0, 8), 1000999);
        Desk.due("the least", desk.line("score A -999.999"), 0);
        desk.sieve.load();
        Desk.due("that is told, too", desk.judge("").sieve.session(0, 8), -998999);
        Desk.due("a priority", desk.line("priority A -99"), 0);
        for (String priority : new String[] {"100", "-100", "0100", "9999", "-9999"}) {
            Desk.due("priority " + priority, desk.line("priority A " + priority), -2);
        }
        desk.sieve.load();
        Desk.due("it stays the least", desk.sieve.order(0), 1);
        Desk.due("99", desk.line("priority A 99"), 0);
        desk.sieve.load();
        Desk.due("it is the greatest", desk.sieve.order(1), 1);
    }

    private static void zonesRefused() {
        Desk.of("REFUSED: a 4th zone");
        Desk desk = new Desk();
        for (int i = 0; i < 3; i++) {
            Desk.due("zone " + i, desk.line("zone z" + i), 0);
        }
        Desk.due("a 4th", desk.line("zone z3"), -2);
        Desk.due("the same again", desk.line("zone z0"), -2);
        desk.sieve.load();
        Desk.due("zones", desk.sieve.state(2), 3);
    }

    private static void numbersRefused() {
        Desk.of("REFUSED: of bayes unless the first is below the second, and that at most 1,000");
        for (String numbers : new String[] {"0 1", "0 1000", "999 1000", "0000 0001", "500 501"}) {
            right("bayes A " + numbers);
        }
        for (String numbers : new String[] {"0 0", "1 0", "5 5", "6 5", "1000 1000", "0 1001", "999 1001", "1000 1001", "0 9999", "9999 0"}) {
            refused("bayes A " + numbers);
        }
        Desk.of("REFUSED: of listed unless the first is 0 to 2 and the second 1 to 255");
        for (String numbers : new String[] {"0 1", "1 2", "2 255", "0000 0254"}) {
            right("listed A " + numbers);
        }
        for (String numbers : new String[] {"3 1", "9999 1", "0 0", "2 0", "0 256", "2 9999", "3 0"}) {
            refused("listed A " + numbers);
        }
        Desk.of("REFUSED: grey above 3,600");
        for (String n : new String[] {"0", "1", "3599", "3600"}) {
            right("grey " + n);
        }
        for (String n : new String[] {"3601", "9999"}) {
            refused("grey " + n);
        }
        Desk desk = Desk.with("grey 1");
        Desk.due("refused", desk.line("grey 3601"), -2);
        desk.sieve.load();
        desk.meet(0, "10.0.0.1");
        desk.give(0, Desk.packet('M', "a\0") + Desk.packet('R', "b\0"));
        desk.sieve.tick(1);
        desk.sieve.clear(0);
        desk.give(0, Desk.packet('R', "b\0"));
        Desk.due("it stays 1", desk.letters(0), "c");
    }

    private static void limitsRefused() {
        Desk.of("REFUSED: W above 999.999 in size (of limits)");
        right("limits 999.999 999.999 999.999");
        right("limits -999.999 -999.999 -999.999");
        String[] wrongs = {"1000 1000 1000", "-1000 0 0", "0 1000 1000", "0 0 1000", "-1000.001 0 0", "0 -1000 0", "0 0 -9999.999"};
        for (String limits : wrongs) {
            refused("limits " + limits);
            Desk desk = Desk.with("limits 1 2 3", "count A 1", "score A 2");
            Desk.due("refused " + limits, desk.line("limits " + limits), -2);
            desk.sieve.load();
            Desk.due("they stay", lettersFor(desk), "hmqa");
        }
    }

    private static void wrongGoesAheadOfRefused() {
        Desk.of("Else it is REFUSED");
        Desk desk = new Desk();
        desk.line("exists A x");
        Desk.due("a name that is there, and wrong", desk.line("exists A x "), 11);
        Desk.due("a name that is not there, and wrong", desk.line("score B x"), 9);
        Desk.due("too great, and wrong", desk.line("grey 9999x"), 10);
        Desk.due("a 17th sign", desk.line("score " + "B".repeat(17) + " 1"), 23);
        desk.line("zone a");
        desk.line("zone b");
        desk.line("zone c");
        Desk.due("a 4th zone, and wrong", desk.line("zone d."), 8);
        Desk.due("limits, and wrong", desk.line("limits 1000 1 x"), 15);
        Desk.due("the draft stays", desk.sieve.state(3), 1);
    }

    private static void untilTheseAreTold() {
        Desk.of("Rules have the numbers 0, 1, .. as they are told, weight 1.000 and priority 0 until these are told");
        Desk desk = Desk.with("count A 1", "count B 1", "count C 1");
        desk.judge("");
        Desk.due("numbers", desk.held(0), "0 1 2");
        Desk.due("weights", desk.sieve.session(0, 8), 3000);
        desk.line("priority A 1");
        desk.line("priority C -1");
        desk.line("score B 0");
        desk.sieve.load();
        Desk.due("0 lies between", desk.judge("").held(0), "2 1 0");
        Desk.due("a weight that is told", desk.sieve.session(0, 8), 2000);
        desk.line("clear");
        desk.line("count D 1");
        desk.line("count E 1");
        desk.sieve.load();
        Desk.due("numbers behind clear", desk.judge("").held(0), "0 1");
        Desk.due("weights behind clear", desk.sieve.session(0, 8), 2000);
    }

    // ---- what metas and programs give

    private static void meta(String expression, boolean want) {
        Desk desk = Desk.with("count T 1", "count F 0", "meta M " + expression).judge("");
        Desk.due("meta " + expression, desk.held(0), want ? "0 2" : "0");
    }

    private static void valuesOfMetas() {
        Desk.of("Of ints: a rule's name is 1 when it holds, else 0; !, the comparisons, && and || (both sides worked out; not 0 is yes) give 1 or 0. It holds when it is not 0");
        String[] yes = {"T", "!F", "!!T", "1", "9999", "T&&T", "T||F", "F||T", "2&&3", "0||5", "T==1", "F==0", "!T==0", "!5==0", "!0==1", "T<2",
            "F<T", "T>F", "0-1<0", "1-2", "T-2", "T+T==2", "(T||T)==1", "(2&&3)==1", "(5>3)==1", "T+T+T==3", "5-3-1==1", "5-(3-1)==3",
            "F&&F||T", "T||F&&F", "(T||F)&&T", "(1<2)==1", "F-1", "9999+9999==9999+9999", "!(T&&F)", "!T+1", "0-9999<0-9998"};
        for (String expression : yes) {
            meta(expression, true);
        }
        String[] no = {"F", "!T", "!!F", "0", "T&&F", "F&&T", "F||F", "0||0", "T==0", "T==2", "T<1", "T<T", "F>F", "T>1", "T-1", "F+F", "2==(T||T)",
            "5-3-1==3", "(T||F)&&F", "0000", "!9999", "T-T", "2-1<1", "F<F", "!(T||F)"};
        for (String expression : no) {
            meta(expression, false);
        }
    }

    private static void program(String program, int want) {
        Desk desk = Desk.with("count A " + program + " " + (want < 0 ? "0 " + -(want + 1) + " - 1 -" : "" + want) + " =", "count B "
            + program).judge("");
        Desk.due("count " + program, desk.held(0), want != 0 ? "0 1" : "0");
    }

    private static void valuesOfPrograms() {
        Desk.of("the others take two (the one below first; ! one) and give one (all around an int; <, =, &, the sign 124 and ! 1 or 0 as above)");
        program("7 3 -", 4);
        program("3 7 -", -4);
        program("7 3 +", 10);
        program("7 3 *", 21);
        program("3 7 <", 1);
        program("7 3 <", 0);
        program("7 7 <", 0);
        program("7 7 =", 1);
        program("7 3 =", 0);
        program("7 8 &", 1);
        program("7 0 &", 0);
        program("0 7 &", 0);
        program("7 0 |", 1);
        program("0 0 |", 0);
        program("7 8 |", 1);
        program("7 !", 0);
        program("0 !", 1);
        program("0 1 - !", 0);
        program("0 1 - 0 <", 1);
        program("9 5 3 - -", 7);
        program("9 5 - 3 -", 1);
        program("9999 9999 * 9998 9999 * -", 9999);
        Desk desk = Desk.with("count A 9999 9999 * 9999 * 0 <", "count B 9999 9999 * 0 <",
            "count C 2 2 * 2 * 2 * 2 * 2 * 2 * 2 * 256 = 16 16 * 256 = &",
            "count D 256 256 * 256 * 128 * 0 <", "count E 256 256 * 256 * 256 * 0 =", "count F 256 256 * 256 * 128 * 1 - 0 <").judge("");
        int round = 9999 * 9999 * 9999;
        Desk.due("all around an int", desk.held(0), (round < 0 ? "0 " : "") + "2 3 4");
        Desk.of("a number, or how many parts, chars of the text, 10s in it, headers, recipients, uris, A to Z in the text, bytes of the body");
        String body = "--q\n\nAb C\nZ\n--q\n\n[@ http://x\n--q--";
        Desk facts = Desk.with("count A parts 3 =", "count B chars 19 =", "count C lines 3 =", "count D heads 2 =", "count E rcpts 1 =",
            "count F uris 1 =", "count G caps 3 =", "count H size " + body.length() + " =");
        facts.judge(body, "Content-Type", "multipart/x; boundary=q", "X", "y");
        int[] values = {3, 19, 3, 2, 1, 1, 3, body.length()};
        String[] names = {"parts", "chars", "lines", "heads", "rcpts", "uris", "caps", "size"};
        for (int i = 0; i < names.length; i++) {
            int v = values[i];
            Desk each = Desk.with("count A " + names[i] + " " + v + " =", "count B " + names[i] + " " + (v + 1) + " =", "count C " + names[i] + " "
                + v + " <", "count D " + names[i] + " " + (v + 1) + " <",
                "count E " + v + " " + names[i] + " <", "count F " + (v - 1) + " " + names[i] + " <", "count G " + names[i] + " " + v + " -",
                    "count H " + names[i], "count I " + names[i] + " !", "count J " + names[i] + " " + names[i] + " + " + 2 * v + " =");
            // a longer text with letters and lines came before
            each.judge("AAAA\n".repeat(50) + "http://x ".repeat(5) + "A".repeat(60), "A", "b", "C", "d", "E", "f");
            each.judge(body, "Content-Type", "multipart/x; boundary=q", "X", "y");
            Desk.due("count of " + names[i], each.held(0), "0 3 5 7 9");
        }
        Desk.due("the text", facts.text(0), "Ab C\nZ\n[@ http://x\n");
        Desk.due("its chars", facts.sieve.session(0, 11), 19);
        Desk.due("facts", facts.held(0), "0 1 2 3 4 5 6 7");
    }

    // ---- loading

    /** Lines as long as the tape. */
    private static void longestPrograms() {
        Desk.of("EXPRESSION and PROGRAM: of any length");
        Desk desk = Desk.with("count T 1");
        String sum = "meta A T" + "+T".repeat(1996);
        Desk.due("a meta of 4,000 signs", sum.length(), 4000);
        Desk.due("its line", desk.line(sum), 0);
        Desk.due("one that tells its value", desk.line("meta B T" + "+T".repeat(1980) + "==1981"), 0);
        Desk.due("one that does not", desk.line("meta C T" + "+T".repeat(1980) + "==1980"), 0);
        String program = "count D 1" + " 1 +".repeat(997);
        Desk.due("a count of 3,997 signs", program.length(), 3997);
        Desk.due("its line", desk.line(program), 0);
        Desk.due("another", desk.line("count E 1" + " 1 +".repeat(990) + " 991 ="), 0);
        Desk.due("a third", desk.line("count F 1" + " 1 +".repeat(990) + " 990 ="), 0);
        // in each of ten groups four are worked out so far
        Desk.due("the deepest", desk.line("meta G " + "0||1&&1<1+(".repeat(10) + "1" + ")".repeat(10)), 0);
        Desk.due("the deepest with !", desk.line("meta H " + "0||T&&0<T+!".repeat(10) + "0"), 0);
        Desk.due("load", desk.sieve.load(), 9);
        Desk.due("held", desk.judge("").held(0), "0 1 2 4 5 7 8");
    }

    private static void badMetas() {
        Desk.of("a rule is BAD when it is a meta that names a rule that is not there");
        Desk desk = new Desk();
        desk.line("meta A B");
        Desk.due("not there", desk.sieve.load(), -1);
        Desk.due("nothing is done", desk.sieve.state(1), 0);
        desk.line("exists B x");
        Desk.due("there, though later", desk.sieve.load(), 2);
        desk.line("meta C 1||A&&!(B+D)");
        Desk.due("deep in an expression", desk.sieve.load(), -3);
        Desk.due("the loaded set stays", desk.sieve.state(1), 2);
        Desk.due("the draft stays", desk.sieve.state(3), 3);
        desk.line("count D 1");
        Desk.due("now there", desk.sieve.load(), 4);
        desk.line("meta E BB");
        Desk.due("a longer name", desk.sieve.load(), -5);
        Desk.due("a meta without names", Desk.with("meta A 1").sieve.state(1), 1);
    }

    private static void badRings() {
        Desk.of("or needs itself (through metas)");
        Desk desk = new Desk();
        desk.line("count X 1");
        desk.line("meta A A");
        Desk.due("itself", desk.sieve.load(), -2);
        desk.line("clear");
        desk.line("meta D A");
        desk.line("meta A B");
        desk.line("meta B C");
        desk.line("count X 1");
        desk.line("meta C X");
        Desk.due("a row of them", desk.sieve.load(), 5);
        desk.line("clear");
        desk.line("meta D A");
        desk.line("meta A X+B");
        desk.line("meta B X+C");
        desk.line("count X 1");
        desk.line("meta C X+A");
        Desk.due("a ring, and one that only names it", desk.sieve.load(), -2);
        desk.line("clear");
        for (int i = 0; i < 23; i++) {
            desk.line("meta M" + i + " M" + (i + 1));
        }
        desk.line("meta M23 1");
        Desk.due("24 in a row", desk.sieve.load(), 24);
        for (int k = 0; k < 24; k++) {
            Desk.due("their order", desk.sieve.order(k), 23 - k);
        }
        Desk.due("all hold", desk.judge("").sieve.session(0, 9), 24);
        desk.line("clear");
        for (int i = 0; i < 24; i++) {
            desk.line("meta M" + i + " M" + (i + 1) % 24);
        }
        Desk.due("24 in a ring", desk.sieve.load(), -1);
        desk.line("clear");
        desk.line("meta A Z");
        desk.line("meta B B");
        Desk.due("the first bad one", desk.sieve.load(), -1);
    }

    private static void badListed() {
        Desk.of("or a listed of a zone that is not there");
        for (int zone = 0; zone <= 2; zone++) {
            for (int there = 0; there <= 3; there++) {
                Desk desk = new Desk();
                desk.line("count X 1");
                desk.line("listed A " + zone + " 1");
                for (int i = 0; i < there; i++) {
                    desk.line("zone z" + i);
                }
                Desk.due("listed of zone " + zone + " of " + there, desk.sieve.load(), zone < there ? 2 : -2);
            }
        }
    }

    private static void order(String want, String... lines) {
        Desk desk = Desk.with(lines);
        StringBuilder all = new StringBuilder();
        for (int k = 0; desk.sieve.order(k) >= 0; k++) {
            all.append(desk.sieve.order(k)).append(' ');
        }
        Desk.due("order of " + String.join(", ", lines), all.toString().trim(), want);
    }

    private static void order() {
        Desk.of("ORDER: again and again the rule of the least priority, of these of the least number, whose named rules have all been taken");
        order("");
        order("0 1 2", "count A 1", "count B 1", "count C 1");
        order("2 0 1", "count A 1", "count B 1", "count C 1", "priority C -1");
        order("1 2 0", "count A 1", "count B 1", "count C 1", "priority A 1");
        order("1 0 2", "count A 1", "count B 1", "count C 1", "priority A -98", "priority B -99", "priority C 99");
        order("1 0", "meta A B", "count B 1");
        order("1 0", "meta A B", "count B 1", "priority A -99", "priority B 99");
        order("2 1 0", "meta A B", "meta B C", "count C 1");
        order("2 0 1", "meta A C", "count B 1", "count C 1", "priority A -5", "priority C -1");
        order("1 2 0 3", "meta A B&&C", "count B 1", "count C 1", "count D 1");
        order("1 3 2 0", "meta A B&&C", "count B 1", "count C 1", "count D 1", "priority C 1");
        order("0 1", "meta A 1", "count B 1");
        order("1 0 2", "meta A B+B+B", "count B 1", "count C 1");
    }
}
