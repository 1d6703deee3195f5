import java.util.Random;

/** Term 3, sentence by sentence: each place at which an expression is wrong, the size, the meaning at its bounds. */
public final class Term3Test {
    private static final String SIGNS = "ab019,{}()[]^-\\|*+?.$ dDwWsSbBntq";
    private static final Desk DESK = new Desk();

    public static void main(String[] args) {
        signs();
        atoms();
        times();
        classes();
        escapes();
        endsTooSoon();
        noBoundaryInAClass();
        numbers();
        secondNumbers();
        ranges();
        groups();
        sizeOfAtomsAndGroups();
        sizeOfBranches();
        sizeOfTimes();
        sizeOfRows();
        sizeComesLast();
        theFirstWrongSign();
        singleChars();
        flag();
        places();
        repeats();
        found();
        Desk.end();
    }

    private static void right(String expression) {
        for (String row : new String[] {"", "*", "?a", "{0}", "}", ")", "]", "|", "/", "\u0001"}) {
            Desk.due(expression + " is right with the row " + row, DESK.find(expression, row, false) >= 0, true);
        }
        Desk.due(expression + " is right in a line", new Desk().line("body A /" + expression + "/"), 0);
    }

    private static void wrong(String expression, int place) {
        for (String row : new String[] {"", ")", "))))))", "a", "a]", "]", "-b]", "}", "1}", ",2}", "d", "d]"}) {
            Desk.due(expression + " is wrong at " + place + " with the row " + row, DESK.find(expression, row, false), -2 - place);
        }
        Desk.due(expression + " is wrong with the flag", DESK.find(expression, "", true), -2 - place);
        if (expression.indexOf('/') < 0) {
            Desk.due(expression + " is wrong in a line", new Desk().line("body A /" + expression + "/"), 8 + place + 1);
        }
    }

    private static void find(String expression, String row, boolean small, boolean want) {
        Desk.due("find " + expression + " in " + row.replace('\n', '~') + (small ? " (i)" : ""), DESK.find(expression, row, small), want ? 1 : 0);
    }

    // ---- where it is wrong

    private static void signs() {
        Desk.of("REGULAR EXPRESSIONS are signs 32 to 126 but /");
        for (int c = 0; c < 256; c++) {
            String sign = "" + (char) c;
            if (c < 32 || c > 126 || c == '/') {
                wrong(sign, 0);
                wrong("a" + sign, 1);
                wrong("[" + sign + "]", 1);
                wrong("[a-" + sign + "]", 3);
                wrong("\\" + sign, 1);
                wrong("a{" + sign + "}", 2);
                wrong("(a" + sign, 2);
            } else if ("()[]{}*+?|\\.^$".indexOf(c) < 0) {
                right(sign);
                right("a" + sign + "b");
                find(sign, sign, false, true);
                find(sign, (char) (c ^ 1) + "", false, false);
            }
        }
    }

    private static void atoms() {
        Desk.of("atom: any sign but ( ) [ ] { } * + ? | \\ . ^ $");
        for (String ahead : new String[] {"", "a|", "(a)", "|"}) {
            for (String none : new String[] {"]", "{", "}", ")"}) {
                wrong(ahead + none, ahead.length() + (none.equals("{") && ahead.endsWith(")") ? 1 : 0));
            }
        }
        for (String ahead : new String[] {"", "a|", "(", "(a|"}) {
            for (String none : new String[] {"*", "+", "?", "{1}"}) {
                wrong(ahead + none, ahead.length());
            }
        }
        for (String all : new String[] {"", "|", "||", "()", "(|)", ".", "^", "$", "^*", "$+", ".?", "^{2}", "()*", "(a|b)", "a|", "|a", "((a)|(b))",
            ",", "-", "0", "a-b", "a,b", "&", "~", " "}) {
            right(all);
        }
    }

    private static void times() {
        Desk.of("piece: atom (\"*\" | \"+\" | \"?\" | \"{\" n \"}\" | \"{\" n \",\" \"}\" | \"{\" n \",\" n \"}\")?. n: one or two digits");
        for (String one : new String[] {"*", "+", "?", "{0}", "{20}", "{0,}", "{20,}", "{0,0}", "{0,20}", "{20,20}", "{01}", "{00,00}", "{09,10}"}) {
            right("a" + one);
            for (String two : new String[] {"*", "+", "?", "{1}"}) {
                wrong("a" + one + two, 1 + one.length());
                right("(a" + one + ")" + two);
            }
        }
        wrong("a{}", 2);
        wrong("a{,}", 2);
        wrong("a{,1}", 2);
        wrong("a{x}", 2);
        wrong("a{-1}", 2);
        wrong("a{ 1}", 2);
        wrong("a{1x}", 3);
        wrong("a{1 }", 3);
        wrong("a{1;2}", 3);
        wrong("a{1,x}", 4);
        wrong("a{1, 2}", 4);
        wrong("a{1,,}", 4);
        wrong("a{1,2,}", 5);
        wrong("a{1,2x}", 5);
        wrong("a{000}", 4);
        wrong("a{001}", 4);
        wrong("a{1,000}", 6);
        wrong("a{200}", 4);
    }

    private static void classes() {
        Desk.of("class: \"[\" \"^\"? item+ \"]\". item: char | char \"-\" char | \"\\\" escape. char: any sign but ] [ \\ ^ -");
        for (String all : new String[] {"[a]", "[^a]", "[ab]", "[a-b]", "[a-a]", "[a-bc-d]", "[a-bc]", "[ab-c]", "[.]", "[*+?{}()|$]", "[ ]", "[\\]]",
            "[\\^]", "[\\-]", "[\\[]", "[\\\\]", "[\\da]", "[a\\d]", "[\\d\\w]", "[!-~]", "[ -~]", "[,-.]", "[^\\^]"}) {
            right(all);
        }
        wrong("[]", 1);
        wrong("[]a]", 1);
        wrong("[^]", 2);
        wrong("[^^]", 2);
        wrong("[a^]", 2);
        wrong("[^a^]", 3);
        wrong("[[]", 1);
        wrong("[a[]", 2);
        wrong("[-]", 1);
        wrong("[-a]", 1);
        wrong("[^-a]", 2);
        wrong("[a-]", 3);
        wrong("[a-b-]", 4);
        wrong("[a-b-c]", 4);
        wrong("[a--]", 3);
        wrong("[a-^]", 3);
        wrong("[a-[]", 3);
        wrong("[a-\\d]", 3);
        wrong("[A-\\d]", 3);
        wrong("[A-\\]]", 3);
        wrong("[ -\\~]", 3);
        wrong("[A-[]", 3);
        wrong("[A-^]", 3);
        wrong("[ --]", 3);
        wrong("[a-\\b]", 3);
        wrong("[a-\\-]", 3);
        wrong("[\\d-a]", 3);
        wrong("[\\--a]", 3);
        wrong("[a]]", 3);
        wrong("[a/]", 2);
    }

    private static void escapes() {
        Desk.of("escape: d D w W s S b B n t, or any sign that is no letter and no digit");
        for (int c = 32; c < 127; c++) {
            boolean one = "dDwWsSbBnt".indexOf(c) >= 0 || !Character.isLetterOrDigit(c) && c != '/';
            if (one) {
                right("\\" + (char) c);
                right("\\" + (char) c + "{2}");
            } else {
                wrong("\\" + (char) c, 1);
                wrong("a\\" + (char) c, 2);
            }
            if (one && c != 'b' && c != 'B') {
                right("[\\" + (char) c + "]");
            } else {
                wrong("[\\" + (char) c + "]", 2);
            }
        }
    }

    private static void endsTooSoon() {
        Desk.of("(at its length, when it ends too soon)");
        for (String soon : new String[] {"(", "((", "(a", "(a|", "((a)", "()(", "[", "[^", "[a", "[^a", "[a-", "[a-b", "[\\", "[a\\", "[\\d", "\\",
            "a\\", "(\\", "a{", "a{1", "a{12", "a{1,", "a{1,2", "a{1,12", "(a){", "(a)*("}) {
            wrong(soon, soon.length());
            Desk.due(soon + " in a line without /", new Desk().line("body A /" + soon), 8 + soon.length() + 1);
        }
        for (int n = 1; n <= 6; n++) {
            wrong("(".repeat(n), n);
            wrong("(".repeat(n) + "a" + ")".repeat(n - 1), 2 * n);
        }
    }

    private static void noBoundaryInAClass() {
        Desk.of("b or B in a class (at it)");
        for (String letter : new String[] {"b", "B"}) {
            wrong("[\\" + letter + "]", 2);
            wrong("[^\\" + letter, 3);
            wrong("[a\\" + letter + "]", 3);
            wrong("[\\d\\" + letter + "]", 4);
            right("[" + letter + "]");
            right("[\\d]\\" + letter);
        }
    }

    private static void numbers() {
        Desk.of("a number above 20 (at its last digit)");
        for (int n = 0; n <= 99; n++) {
            if (n <= 20) {
                right("a{" + n + "}");
                right("a{" + n + ",}");
                right("a{0," + n + "}");
            } else {
                wrong("a{" + n + "}", 3);
                wrong("a{" + n, 3);
                wrong("a{" + n + ",}", 3);
                wrong("a{0," + n + "}", 5);
                wrong("a{10," + n, 6);
            }
        }
        wrong("a{3", 3);
    }

    private static void secondNumbers() {
        Desk.of("a second one below the first (at the })");
        for (int first = 0; first <= 20; first++) {
            for (int second = 0; second <= 20; second++) {
                String expression = "a{" + first + "," + second + "}";
                if (second >= first) {
                    Desk.due(expression, DESK.find(expression, "", false) >= 0, true);
                } else {
                    Desk.due(expression, DESK.find(expression, "", false), -2 - (expression.length() - 1));
                }
            }
        }
        wrong("a{3,2}b", 5);
        wrong("a{3,2x", 5);
        wrong("a{3,2", 5);
        wrong("a{13,2}*", 6);
    }

    private static void ranges() {
        Desk.of("a range whose second char is below the first (at it)");
        String chars = " !09AZaz~_";
        for (char from : chars.toCharArray()) {
            for (char to : chars.toCharArray()) {
                if (to < from) {
                    wrong("[" + from + "-" + to + "]", 3);
                    wrong("[^x" + from + "-" + to, 5);
                } else {
                    right("[" + from + "-" + to + "]");
                }
            }
        }
        wrong("[b-a", 3);
    }

    private static void groups() {
        Desk.of("a ( within 6 others (at it)");
        right("((((((a))))))");
        wrong("(((((((a)))))))", 6);
        wrong("(((((((", 6);
        wrong("a((((((b(", 8);
        right("((((((a))))))((((((b))))))");
        wrong("(((((()(", 8);
        right("(((((()()())))))");
        wrong("(((((([(]\\((", 11);
    }

    // ---- its size

    private static final String S400 = "(a{20}){20}";
    private static final String S580 = S400 + "(a{20}){9}";

    /** An expression of size 580 and this one, which is known to have this size, and more of it up to the bound and behind. */
    private static void size(String expression, int size) {
        int rest = 20 - size;
        String all = S580 + expression + (rest > 0 ? "b{" + rest + "}" : "");
        Desk.due("600 with " + expression, DESK.find(all, "", false) >= -1, true);
        Desk.due("600 with " + expression + " in a line", new Desk().line("body A /" + all + "/"), 0);
        wrong(all + "c", all.length() + 1);
        String less = S400 + "(a{20}){8}a{19}" + expression + (rest > 0 ? "b{" + rest + "}" : "") + "c";
        Desk.due("600 in another way with " + expression, DESK.find(less, "", false) >= -1, true);
    }

    private static void sizeOfAtomsAndGroups() {
        Desk.of("at its length when its SIZE is above 600: of an atom that is no group 1; of a group that of its re");
        for (String atom : new String[] {"a", ".", "^", "$", "\\d", "\\b", "\\n", "\\.", "[a]", "[^a-z\\d_]", "[abcdefghijklmnop]", "(a)",
            "((((((a))))))"}) {
            size(atom, 1);
        }
        right("a".repeat(600));
        wrong("a".repeat(601), 601);
        wrong("a".repeat(1500), 1500);
        size("(ab)", 2);
        size("((ab)(cde))", 5);
    }

    private static void sizeOfBranches() {
        Desk.of("of branches side by side their sum and 1 for each |");
        size("(a|b)", 3);
        size("(ab|c)", 4);
        size("(a|b|c)", 5);
        size("(|)", 3);
        size("(||)", 5);
        size("(a|)", 3);
        size("(|a)", 3);
        // not only in groups
        right("a".repeat(598) + "|b");
        wrong("a".repeat(599) + "|b", 601);
        right("a".repeat(598) + "|");
        wrong("a".repeat(599) + "|", 600);
        right("|".repeat(299));
        wrong("|".repeat(300), 300);
    }

    private static void sizeOfTimes() {
        Desk.of("of a piece with * + ? its atom's and 1, with {n} or {n,m} the greater number times its atom's, with {n,} n times it, and it and 1");
        for (String sign : new String[] {"*", "+", "?"}) {
            size("a" + sign, 2);
            size("(ab)" + sign, 3);
            size("((a" + sign + ")" + sign + ")" + sign, 4);
            size("(a" + sign + "){5}", 10);
        }
        size("a{1}", 1);
        size("a{7}", 7);
        size("a{20}", 20);
        size("(ab){10}", 20);
        size("a{0,7}", 7);
        size("a{7,7}", 7);
        size("a{6,7}", 7);
        size("(abc){2,3}", 9);
        size("a{0,}", 2);
        size("a{1,}", 3);
        size("a{18,}", 20);
        size("(ab){2,}", 7);
        size("(ab){0,}", 3);
        size("((a{2}){2}){5}", 20);
    }

    private static void sizeOfRows() {
        Desk.of("of a row of pieces their sum (of none 1; of each piece 1 at least)");
        size("()", 1);
        size("(()())", 2);
        size("a{0}", 1);
        size("a{0,0}", 1);
        size("(abcdef){0}", 1);
        size("(a{0}){20}", 20);
        size("(a{0}b{0}){10}", 20);
        size("((((a{20}){20}){20}){20}){0}", 1);
        size("(){20}", 20);
        size("()*", 2);
        size("((abc){0}){5}", 5);
    }

    private static void sizeComesLast() {
        Desk.of("(so also) at its length: behind what is wrong at a sign");
        String great = S580 + S400;
        wrong(great, great.length());
        wrong(great + ")", great.length());
        wrong(great + "a**", great.length() + 2);
        wrong(great + "(", great.length() + 1);
        wrong("((((((a{20}){20}){20}){20}){20}){20}", 36);
        right("(((((a{20}){20}){20}){20}){20}){0}");
        Desk.due("the closing / being its length", new Desk().line("body A /" + great + "/i"), 8 + great.length() + 1);
        Desk.due("without a closing /", new Desk().line("body A /" + great), 8 + great.length() + 1);
    }

    /** No other sign behind the wrong one makes it right, and something right begins with what is ahead of it. */
    private static void theFirstWrongSign() {
        Desk.of("It is WRONG at the first sign with which nothing that is right begins");
        Random random = new Random(3);
        String[] ends = {"", "a", "]", "a]", "}", "0}", "1}", "2}", "5}", "9}", "20}", "d", "d]", ".", "~]", "~", "\\.]", "-~]"};
        int wrongs = 0;
        for (int i = 0; i < 6000; i++) {
            StringBuilder all = new StringBuilder();
            for (int k = 1 + random.nextInt(9); k > 0; k--) {
                all.append(SIGNS.charAt(random.nextInt(SIGNS.length())));
            }
            String expression = all.toString();
            int place = -2 - DESK.find(expression, "", random.nextBoolean());
            if (place < 0 || place >= expression.length()) {
                continue;
            }
            wrongs++;
            for (int k = 0; k < 4; k++) {
                String other = expression.substring(0, place + 1) + SIGNS.charAt(random.nextInt(SIGNS.length()))
                    + SIGNS.charAt(random.nextInt(SIGNS.length()));
                Desk.due("nothing right begins with the wrong sign of " + expression + ", as in " + other, DESK.find(other, "", false), -2 - place);
            }
            boolean begins = expression.substring(0, place).matches(".*\\{\\d+,\\d+");
            for (String end : ends) {
                for (int depth = 0; depth <= 6 && !begins; depth++) {
                    begins = DESK.find(expression.substring(0, place) + end + ")".repeat(depth), "", false) >= 0;
                }
            }
            Desk.due("something right begins with the " + place + " signs ahead of that of " + expression, begins, true);
        }
        Desk.due("many were wrong", wrongs > 2000, true);
    }

    // ---- its meaning

    private static void kind(String expression, String members) {
        for (int c = 0; c < 256; c++) {
            find(expression, "" + (char) c, false, members.indexOf(c) >= 0);
        }
    }

    private static String allBut(String members) {
        StringBuilder all = new StringBuilder();
        for (int c = 0; c < 256; c++) {
            if (members.indexOf(c) < 0) {
                all.append((char) c);
            }
        }
        return all.toString();
    }

    private static void singleChars() {
        Desk.of("stand for one char: . any but 10; d 0 to 9; w letters, digits, _; s 32, 9 to 13; D W S all others; n 10, t 9; [^..] what the items do not have");
        String digits = "0123456789";
        String words = digits + "abcdefghijklmnopqrstuvwxyzABCDEFGHIJKLMNOPQRSTUVWXYZ_";
        String spaces = " \t\n\u000b\u000c\r";
        kind(".", allBut("\n"));
        kind("\\d", digits);
        kind("\\D", allBut(digits));
        kind("\\w", words);
        kind("\\W", allBut(words));
        kind("\\s", spaces);
        kind("\\S", allBut(spaces));
        kind("\\n", "\n");
        kind("\\t", "\t");
        kind("[\\d]", digits);
        kind("[\\D]", allBut(digits));
        kind("[^\\d]", allBut(digits));
        kind("[^\\D]", digits);
        kind("[\\w]", words);
        kind("[^\\W]", words);
        kind("[\\s\\d]", spaces + digits);
        kind("[^\\s\\d]", allBut(spaces + digits));
        kind("[\\S]", allBut(spaces));
        kind("[\\n\\t]", "\n\t");
        kind("[^\\n]", allBut("\n"));
        kind("[b-d]", "bcd");
        kind("[^b-d]", allBut("bcd"));
        kind("[x ]", "x ");
        kind("[~]", "~");
        kind("[ - ]", " ");
        kind("\\-", "-");
        kind("[\\-\\]\\^\\[\\\\]", "-]^[\\");
        kind("[\\D\\d]", allBut(""));
        kind("[^\\D\\d]", "");
    }

    private static void flag() {
        Desk.of("with the flag i letters are their SMALL ones, in the expression (of a range: when the char itself, its small or its great letter lies in it) and in the row");
        String classes = "[Z-a] [@-B] [y-{] [A-C] [a-c] [^A-C] [^Z-a] [!-~] [0-9] [_-b] [X-_] [\\w] [^\\w]";
        for (String expression : classes.split(" ")) {
            for (int c = 0; c < 256; c++) {
                char sign = (char) c;
                boolean letter = c >= 'a' && c <= 'z' || c >= 'A' && c <= 'Z';
                String plain = expression.replace("^", "");
                boolean in = DESK.find(plain, "" + sign, false) == 1 || letter && DESK.find(plain, "" + (char) (c ^ 32), false) == 1;
                find(expression, "" + sign, true, in == plain.equals(expression));
            }
        }
        for (char c = 32; c < 127; c++) {
            if ("()[]{}*+?|\\.^$/".indexOf(c) < 0) {
                for (int other : new int[] {c, c ^ 32}) {
                    boolean letter = Character.isLetter(c);
                    find("" + c, "" + (char) other, true, other == c || letter);
                    find("" + c, "" + (char) other, false, other == c);
                }
            }
        }
        find("\\[", "{", true, false);
        find("\\{", "[", true, false);
        find("\\@", "`", true, false);
        find("\u0041", "\u00c1", true, false);
        find("[a-z]", "\u00e1", true, false);
        find("aBc", "AbC", true, true);
        find("\\S\\W", "a", true, false);
    }

    /** The places of a row at which an expression that takes no chars holds. */
    private static void holds(String expression, String row, String want) {
        StringBuilder places = new StringBuilder();
        for (int i = 0; i <= row.length(); i++) {
            // so many chars of any kind ahead of it, and so many behind it
            StringBuilder all = new StringBuilder();
            for (int k = 0; k < row.length(); k++) {
                all.append(k == i ? expression : "").append(row.charAt(k) == '\n' ? "\\n" : Character.isLetterOrDigit(row.charAt(k)) ? ""
                    + row.charAt(k) : "\\" + row.charAt(k));
            }
            all.append(i == row.length() ? expression : "");
            int got = DESK.find(all.toString(), row, false);
            places.append(got == 1 ? "" + i : "");
        }
        Desk.due(expression + " in " + row.replace('\n', '~'), places.toString(), want);
    }

    private static void places() {
        Desk.of("^ holds at 0 and behind a 10, $ at the end and ahead of a 10; they take no chars");
        holds("^", "", "0");
        holds("$", "", "0");
        holds("^", "ab", "0");
        holds("$", "ab", "2");
        holds("^", "a\nb", "02");
        holds("$", "a\nb", "13");
        holds("^", "\n", "01");
        holds("$", "\n", "01");
        holds("^$", "\n", "01");
        holds("^$", "a\n\nb", "2");
        holds("^", "\n\n", "012");
        holds("^^$$", "\n", "01");
        find("^", "\r", false, true);
        find("a$", "a\r", false, false);
        find("\\n^a", "\na", false, true);
        Desk.of("\\b where just one of the chars on both sides is a w (outside there is none that is), \\B where \\b does not");
        holds("\\b", "", "");
        holds("\\B", "", "0");
        holds("\\b", "a", "01");
        holds("\\B", "a", "");
        holds("\\b", "-", "");
        holds("\\B", "-", "01");
        holds("\\b", "ab-_", "0234");
        holds("\\B", "ab-_", "1");
        holds("\\b", "-9\n", "12");
        holds("\\b\\b", "a-", "01");
        find("\\b", "\u00e9", false, false);
        find("a\\b", "a\u00e9", false, true);
    }

    private static void repeats() {
        Desk.of("{n,m} n to m times one behind the other, * + ? {0,} {1,} {0,1}");
        String[] times = {"*", "+", "?", "{0}", "{1}", "{2}", "{20}", "{0,}", "{1,}", "{2,}", "{20,}", "{0,1}", "{0,3}", "{2,3}", "{3,3}", "{0,20}",
            "{19,20}"};
        int[] least = {0, 1, 0, 0, 1, 2, 20, 0, 1, 2, 20, 0, 0, 2, 3, 0, 19};
        int[] most = {99, 99, 1, 0, 1, 2, 20, 99, 99, 99, 99, 1, 3, 3, 3, 20, 20};
        for (int i = 0; i < times.length; i++) {
            for (int n = 0; n <= 23; n++) {
                boolean want = n >= least[i] && n <= most[i];
                find("^a" + times[i] + "$", "a".repeat(n), false, want);
                find("^(ab)" + times[i] + "$", "ab".repeat(n), false, want);
                find("^(a|b)" + times[i] + "$", "ab".repeat(12).substring(0, n), false, want);
            }
        }
        // the innermost of six groups, which has several pieces
        for (String sign : new String[] {"*", "+", "{2}", "{1,}", "{0,2}", "{2,3}"}) {
            find("^((((((ab)" + sign + ")))))$", "abab", false, true);
            find("^((((((ab)" + sign + ")))))$", "abb", false, false);
            find("^((((((ab|cd)" + sign + ")))))$", "abcd", false, true);
            find("^((((((ab)))" + sign + ")))$", "abab", false, true);
        }
        find("^(a*)*$", "aaa", false, true);
        find("^(a*)+b$", "aab", false, true);
        find("^(a?){3}$", "aaaa", false, false);
        find("^(){20}$", "", false, true);
        find("^(^a|b){2}$", "ab", false, true);
        find("^(a{2}){2,3}$", "aaaaa", false, false);
        find("^(a{2}){2,3}$", "aaaaaa", false, true);
        find("^((a|b){2}c){2}$", "abcbac", false, true);
    }

    private static void found() {
        Desk.of("It is FOUND in a row when it stands for some i to j of it");
        find("", "", false, true);
        find("", "a", false, true);
        find("b", "abc", false, true);
        find("c", "abc", false, true);
        find("d", "abc", false, false);
        find("ac", "abc", false, false);
        find("a|z", "xyz", false, true);
        find("q|", "x", false, true);
        find("ab|bc", "abd", false, true);
        String[] branches = {"ab", "c", "def", "", "g"};
        for (int n = 1; n <= branches.length; n++) {
            String all = String.join("|", java.util.Arrays.copyOf(branches, n));
            for (int i = 0; i < branches.length; i++) {
                find("^(" + all + ")$", branches[i], false, i < n);
                find("^(x(" + all + ")y)$", "x" + branches[i] + "y", false, i < n);
                find("^(" + all + "){2}$", branches[i] + branches[0], false, i < n);
                find("^(" + all + ")*$", branches[i] + branches[i] + "ab", false, i < n || branches[i].isEmpty());
            }
            find("^(" + all + ")$", "abc", false, false);
        }
        for (char c : "abcdefgh".toCharArray()) {
            find("a|b|c|d|e|f|g|h", "-" + c, false, true);
            find("^(a|b|(c|d|e)|f|(g|h))$", "" + c, false, true);
        }
        find("a|b|c|d|e|f|g|h", "i", false, false);
        find("a", "", false, false);
        find("x".repeat(600), "x".repeat(599), false, false);
        find("x".repeat(600), "y" + "x".repeat(600), false, true);
        find("a", "b".repeat(3998) + "a", false, true);
        find("a", "b".repeat(3999), false, false);
        find("\u0020", " ", false, true);
    }
}
