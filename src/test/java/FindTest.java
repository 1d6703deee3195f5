import java.util.Random;
import java.util.regex.Pattern;

/** Promise 19: find, and the regular expressions of term 3. */
public final class FindTest {
    private static final Random RANDOM = new Random(19);

    public static void main(String[] args) {
        bounds();
        meanings();
        flag();
        wrongPlaces();
        theRowEndsNoExpression();
        sizes();
        theGreatestPrograms();
        asJavaFinds();
        Desk.end();
    }

    private static void find(String expression, String row, boolean small, int want) {
        Desk.due("find " + expression + " in " + row.replace('\n', '~') + (small ? " (i)" : ""), new Desk().find(expression, row, small), want);
    }

    private static void bounds() {
        MailSieve x = new MailSieve();
        Desk.due("nothing in nothing", x.find(0, 0, false), 1);
        x.feed(0x61610000, 0, 0, 0, 0);
        Desk.due("n below 0", x.find(-1, 0, false), -1);
        Desk.due("m below 0", x.find(0, -1, false), -1);
        Desk.due("both are more", x.find(10, 11, false), -1);
        Desk.due("sums go round", x.find(Integer.MAX_VALUE, Integer.MAX_VALUE, false), -1);
        Desk.due("the tape stays", x.state(12), 20);
        Desk.due("found", x.find(1, 1, false), 1);
        Desk.due("the tape is empty", x.state(12), 0);
    }

    private static void meanings() {
        find("", "abc", false, 1);
        find("b", "abc", false, 1);
        find("a.c", "a\nc", false, 0);
        find("a.c", "a\u00ffc", false, 1);
        find("^b", "a\nb", false, 1);
        find("^b", "ab", false, 0);
        find("a$", "a\nb", false, 1);
        find("^$", "a\n", false, 1);
        find("^$", "a\nb", false, 0);
        find("\\bfoo\\b", "a foo.", false, 1);
        find("\\bfoo\\b", "a foo_", false, 0);
        find("\\B", "", false, 1);
        find("\\b", "", false, 0);
        find("\\b", "a", false, 1);
        find("^a{2,3}$", "aaaa", false, 0);
        find("^a{2,3}$", "aaa", false, 1);
        find("^a{2,}$", "aaaaa", false, 1);
        find("^a{2}$", "a", false, 0);
        find("^a{0}b", "b", false, 1);
        find("^(ab|c)+$", "abcab", false, 1);
        find("^(ab|c)+$", "abca", false, 0);
        find("(a|)b|", "x", false, 1);
        find("^(a*)*$", "aab", false, 0);
        find("^(a?){20}$", "a".repeat(20), false, 1);
        find("^(a?){20}$", "a".repeat(21), false, 0);
        find("[^a-c]", "abcabc", false, 0);
        find("[^a-c]", "abc\n", false, 1);
        find("[\\d_]", "x5", false, 1);
        find("[\\D]", "15", false, 0);
        find("[^\\W]", " -", false, 0);
        find("[.*]", "a", false, 0);
        find("\\.\\*\\\\", ".*\\", false, 1);
        find("\\s\\S", "\u000bx", false, 1);
        find("^\\s{6}$", " \t\n\u000b\u000c\r", false, 1);
        find("\\s", "\u00a0\u001f\u0008\u000e", false, 0);
        find("\\w", "\u00e9\u00ff", false, 0);
        find("\\W", "\u00e9", false, 1);
        find("\\n\\t", "\n\t", false, 1);
        find("[\\n]", "n", false, 0);
        find("^*a", "ba", false, 1);
        find("((((((a))))))", "a", false, 1);
    }

    private static void flag() {
        find("AbC", "xaBc", true, 1);
        find("AbC", "xaBc", false, 0);
        find("[Z-a]", "z", true, 1);
        find("[Z-a]", "A", true, 1);
        find("[Z-a]", "b", true, 0);
        find("[Z-a]", "z", false, 0);
        find("[^a]", "A", true, 0);
        find("[^B-C]", "bc", true, 0);
        find("[@]", "`", true, 0);
        find("@", "`", true, 0);
        find("\\[", "{", true, 0);
        find("[\\\\]", "|", true, 0);
    }

    private static void wrongPlaces() {
        String[] wrong = {"(", ")", "a)", "(a", "*", "a**", "a+?", "a{2}{3}", "{", "}", "]", "a{", "a{a", "a{1", "a{1a", "a{1,", "a{1,a", "a{21}", "a{99}",
            "a{1,21}", "a{100}", "a{3,2}", "a{03,2}", "a{20,1}", "[", "[]", "[^]", "[a", "[a-", "[a-]", "[b-a]", "[-a]", "[a-b-c]", "[a^]", "[[]", "[\\b]", "[\\B]",
            "[\\q]", "[\\", "[a-\\d]", "[\\d-a]", "\\", "\\q", "\\1", "\\a", "a/b", "\\/", "[/]", "a\u0080", "\u0007", "(((((((a", "|*", "(*)", "^{,3}"};
        int[] places = {1, 0, 1, 2, 0, 2, 2, 4, 0, 0, 0, 2, 2, 3, 3, 4, 4, 3, 3,
            5, 4, 5, 6, 6, 1, 1, 2, 2, 3, 3, 3, 1, 4, 2, 1, 2, 2,
            2, 2, 3, 3, 1, 1, 1, 1, 1, 1, 1, 1, 0, 6, 1, 1, 2};
        for (int i = 0; i < wrong.length; i++) {
            find(wrong[i], "", false, -2 - places[i]);
        }
    }

    /** What stands behind the expression on the tape is none of it. */
    private static void theRowEndsNoExpression() {
        String[] soon = {"(", "(a", "a{", "a{1", "a{1,", "a{1,2", "[", "[^", "[a", "[a-", "[a\\", "\\"};
        String[] rows = {")", ")", "1}", "}", "2}", "}", "a]", "a]", "-b]", "b]", "d]", "d"};
        for (int i = 0; i < soon.length; i++) {
            find(soon[i], rows[i], false, -2 - soon[i].length());
        }
        find("a", "*b", false, 0);
        find("ab", "?a", false, 0);
        find("a", "{0}", false, 0);
        find("a", "\u0061", false, 1);
    }

    private static void sizes() {
        // 20 times 20 and 20 times 10 are 600
        String full = "(a{20}){20}(a{20}){10}";
        find(full, "", false, 0);
        find(full + "b", "", false, -2 - full.length() - 1);
        find(full + "b*)", "", false, -2 - full.length() - 2);
        find("((a{20}){20}){20}", "", false, -2 - 17);
        find("((((((a{20}){20}){20}){20}){20}){20}){20}", "", false, -2 - 41);
        find("(((a{20}){20}){20}){0}x", "x", false, 1);
        // branches: their sum and 1 for each
        find("(a{20}){20}(a{20}){9}(a{9}|b{10})", "", false, 0);
        find("(a{20}){20}(a{20}){9}(a{10}|b{10})", "", false, -2 - 34);
        find("(a{20}){20}(a{20}){9}(|){6}b{2}", "", false, 0);
        find("(a{20}){20}(a{20}){9}(|){6}b{3}", "", false, -2 - 31);
        // with + ? * one more, with {n,} once more and one
        find("(a{20}){20}(a{20}){9}(a+){10}", "", false, 0);
        find("(a{20}){20}(a{20}){9}(a?){10}b", "", false, -2 - 30);
        find("(a{20}){20}(a{20}){9}(a*){9}()b", "", false, 0);
        find("(a{20}){20}(a{20}){9}a{18,}", "", false, 0);
        find("(a{20}){20}(a{20}){9}a{19,}", "", false, -2 - 27);
        // a piece is 1 at least
        find("(a{20}){20}(a{20}){9}(a{0}){20}", "", false, 0);
        find("(a{20}){20}(a{20}){9}(a{0}){20}b", "", false, -2 - 32);
        find("(a{20}){20}(a{20}){9}((((((a{20}){20}){20}){20}){20}){0}){20}", "", false, 0);
    }

    private static void theGreatestPrograms() {
        // each {0,1} adds nothing to the size, but a step to the program
        String deep = "((((((a{0,1}){0,1}){0,1}){0,1}){0,1}){0,20}){0,20}";
        find(deep + "b", "a".repeat(100) + "b", false, 1);
        find("^" + deep + "$", "a".repeat(400), false, 1);
        find("^" + deep + "$", "a".repeat(401), false, 0);
        find("([" + "a".repeat(1000) + "b]){0}" + "[c]".repeat(500), "c".repeat(500), false, 1);
        find("([a]|[b]|[c]|[d]){0}".repeat(100) + "x", "x", false, 1);
    }

    // ---- random expressions, compared with java.util.regex

    private static void asJavaFinds() {
        Desk desk = new Desk();
        for (int i = 0; i < 20000; i++) {
            String expression = branches(0);
            StringBuilder row = new StringBuilder();
            for (int k = RANDOM.nextInt(9); k > 0; k--) {
                row.append("aabbABcC1_ -\n\t.\u00e9zZ".charAt(RANDOM.nextInt(18)));
            }
            boolean small = RANDOM.nextBoolean();
            int got = desk.find(expression, row.toString(), small);
            if (got < -1) {
                continue;
            }
            boolean want = Pattern.compile(translated(expression), small ? Pattern.CASE_INSENSITIVE : 0).matcher(row).find();
            Desk.due("find " + expression + " in " + row, got, want ? 1 : 0);
        }
    }

    private static String branches(int depth) {
        StringBuilder all = new StringBuilder();
        for (int b = RANDOM.nextInt(3) == 0 ? 2 : 1; b > 0; b--) {
            for (int p = RANDOM.nextInt(4); p > 0; p--) {
                all.append(atom(depth)).append(times());
            }
            all.append(b > 1 ? "|" : "");
        }
        return all.toString();
    }

    private static String times() {
        String[] some = {"", "", "", "", "*", "+", "?", "{0}", "{2}", "{1,}", "{0,2}", "{1,3}"};
        return some[RANDOM.nextInt(some.length)];
    }

    private static String atom(int depth) {
        String[] some = {"a", "b", "A", "B", "1", " ", "_", "c", ".", "^", "$", "\\d", "\\D", "\\w", "\\W", "\\s", "\\S", "\\b", "\\B", "\\n", "\\t", "\\.",
            "[ab]", "[^a]", "[A-C]", "[Z-a]", "[\\d_]", "[^\\w]", "[\\D1]", "[a\\-c]", "[0-9 ]"};
        return depth < 3 && RANDOM.nextInt(5) == 0 ? "(" + branches(depth + 1) + ")" : some[RANDOM.nextInt(some.length)];
    }

    /** The same for Java, whose ^, $, . and \b differ. */
    private static String translated(String expression) {
        return expression.replace("\\b", "\u0001").replace("\\B", "\u0002").replace("\\.", "\u0003").replace("[^", "\u0004")
            .replace("^", "(?<![^\\n])").replace("$", "(?![^\\n])").replace(".", "[^\\n]")
            .replace("\u0001", "(?:(?<=[A-Za-z0-9_])(?![A-Za-z0-9_])|(?<![A-Za-z0-9_])(?=[A-Za-z0-9_]))")
            .replace("\u0002", "(?:(?<=[A-Za-z0-9_])(?=[A-Za-z0-9_])|(?<![A-Za-z0-9_])(?![A-Za-z0-9_]))")
            .replace("\u0003", "\\.").replace("\u0004", "[^").replaceAll("\\((?!\\?)", "(?:");
    }
}
