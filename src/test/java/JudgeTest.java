/** Promises 22 and 24, and term 5: rules that hold, the score, the replies. */
public final class JudgeTest {
    public static void main(String[] args) {
        headerRules();
        textRules();
        attachRules();
        bayesRules();
        metas();
        programs();
        scores();
        replies();
        marks();
        subjects();
        bounds();
        Desk.end();
    }

    private static Desk judged(String[] lines, String body, String... headers) {
        Desk desk = new Desk();
        for (String line : lines) {
            Desk.due("line " + line, desk.line(line), 0);
        }
        Desk.due("load", desk.sieve.load() >= 0, true);
        desk.meet(0, "");
        desk.give(0, Desk.message(body, headers));
        return desk;
    }

    private static void held(String want, String[] lines, String body, String... headers) {
        Desk.due("held of " + String.join(", ", lines), judged(lines, body, headers).held(0), want);
    }

    private static void headerRules() {
        String[] lines = {"header A X-Some /one/", "header B x-SOME /^two$/", "header C X-Som /./", "exists D x-some", "exists E y", "header F X-Some /onetwo/", "header G Empty /^$/", "exists H empty"};
        held("0 1 3 6 7", lines, "", "x-Some", " one ", "X-SOME", "two", "Empty", "");
        held("", lines, "one");
    }

    private static void textRules() {
        String[] lines = {"body A /<b>/", "raw B /<b>/", "body C /^free money$/", "raw D /^free money$/", "body E /FREE/", "body F /FREE/i", "raw G /^<b>free/", "body H /\\n$/"};
        held("1 2 5 6 7", lines, "\n<b>free</b>   money", "Content-Type", "text/html");
    }

    private static void attachRules() {
        String[] lines = {"attach A exe", "attach B EXE", "attach C xe", "attach D 12345678"};
        held("0 1", lines, "x", "Content-Type", "application/x; name=\"a b.ExE\"");
        held("0 1", lines, "x", "Content-Type", "application/x; name=.exe");
        held("", lines, "x", "Content-Type", "application/x; name=exe");
        held("", lines, "x", "Content-Type", "application/x; filename=a.exe");
        held("", lines, "x", "Content-Type", "text/plain; name=a.exe");
        held("3", lines, "x", "Content-Type", "application/x; name=longer.12345678");
        held("", lines, "x", "Content-Type", "application/x; name=a.zip; name=a.exe");
        held("0 1", lines, "--q\nContent-Type: text/plain\n\nx\n--q\nContent-Type: a/b; name=b.exe\n\n--q--", "Content-Type", "multipart/x; boundary=q; name=a.12345678");
        held("3", lines, "x", "Content-Type", "multipart/x; name=a.12345678");
    }

    private static void bayesRules() {
        String[] lines = {"bayes A 0 500", "bayes B 500 501", "bayes C 500 1000", "bayes D 501 1000", "bayes E 0 1000"};
        held("1 2 4", lines, "word");
        Desk desk = new Desk();
        desk.line("bayes A 999 1000");
        desk.line("bayes B 0 1");
        desk.sieve.load();
        desk.meet(0, "");
        for (int i = 0; i < 40; i++) {
            desk.give(0, Desk.message("aaa bbb ccc ddd eee fff ggg hhh iii jjj kkk lll mmm nnn ooo"));
            desk.sieve.learn(0, true);
            desk.give(0, Desk.message("zzz yyy xxx www vvv uuu ttt sss rrr qqq ppp"));
            desk.sieve.learn(0, false);
            desk.sieve.clear(0);
            desk.sieve.compact();
        }
        desk.give(0, Desk.message("aaa bbb ccc ddd eee fff ggg hhh iii jjj kkk lll mmm nnn ooo"));
        Desk.due("near 1", desk.held(0), "0");
        desk.give(0, Desk.message("zzz yyy xxx www vvv uuu ttt sss rrr qqq ppp"));
        Desk.due("near 0", desk.held(0), "1");
    }

    private static void metas() {
        String[] lines = {"count T 1", "count F 0", "meta A T&&F", "meta B T||F", "meta C !F", "meta D T+T==2", "meta E T-2<0", "meta G 2>T", "meta H !!T&&!(T&&F)", "meta I F||3", "meta J T-1",
            "meta K 1-2"};
        held("0 3 4 5 6 7 8 9 11", lines, "");
        Desk desk = new Desk();
        Desk.due("compare is told once", desk.line("meta L 1<2==1"), 11);
        Desk.due("no products", desk.line("meta O T+F*1"), 11);
        held("0 2", new String[] {"count T 1", "meta A !B", "meta B T"}, "");
        held("2", new String[] {"count T 0", "meta A !B", "meta B !T&&1-1||!T"}, "");
        held("0 2", new String[] {"count T 1", "meta A !(T||0)", "meta B (0||T&&(1<0||T))+1==2"}, "");
        held("0", new String[] {"meta A 9999+9999-9999==9999"}, "");
    }

    private static void programs() {
        String[] lines = {"count A parts 1 =", "count B chars 16 =", "count C lines 3 =", "count D heads 2 =", "count E rcpts 1 =", "count F uris 1 =", "count G caps 4 =", "count H size 16 =",
            "count I 5 3 - 2 =", "count J 3 5 <", "count K 5 3 <", "count L 7 8 & 1 =", "count M 0 8 |", "count N 0 8 &", "count O 5 !", "count P 0 ! ! !", "count Q 3 4 * 12 =", "count R 3 4 5 + + 12 =",
            "count S 0 1 - 0 <", "count T 9999 9999 * 9999 * 9999 * 0 <"};
        Desk desk = judged(lines, "AB\n\nC http://D\nx", "a", "b", "c", "d");
        int wrapped = 9999 * 9999 * 9999 * 9999;
        Desk.due("programs", desk.held(0), "0 1 2 3 4 5 6 7 8 9 11 12 15 16 17 18" + (wrapped < 0 ? " 19" : ""));
    }

    private static void scores() {
        score(1000, "count A 1");
        score(0, "count A 0");
        score(2500, "count A 1", "score A 2.5");
        score(-25, "count A 1", "score A -0.025");
        score(1999998, "count A 1", "score A 999.999", "count B 1", "score B 999.999");
        score(0, "count A 1", "score A -3.1", "count B 1", "score B 3.10");
        score(7, "count A 1", "score A 5", "score A 0.007");
    }

    private static void score(int want, String... lines) {
        Desk.due("score of " + String.join(", ", lines), judged(lines, "").sieve.session(0, 8), want);
    }

    private static String lettersFor(int granted, String... lines) {
        Desk desk = new Desk();
        for (String line : lines) {
            desk.line(line);
        }
        desk.sieve.load();
        desk.sieve.open(0);
        desk.give(0, Desk.packet('O', Desk.number(6) + Desk.number(granted) + Desk.number(0)) + Desk.client(""));
        desk.sieve.clear(0);
        desk.give(0, Desk.message("", "Subject", "s"));
        String letters = desk.letters(0);
        return letters.substring(4);
    }

    private static void replies() {
        int[] grants = {0, 0x01, 0x10, 0x20, 0x11, 0x31};
        String[] below = {"a", "a", "a", "a", "a", "a"};
        String[] first = {"a", "ha", "ma", "a", "hma", "hma"};
        String[] second = {"t", "ht", "mt", "qa", "hmt", "hmqa"};
        String[] third = {"y", "hy", "my", "y", "hmy", "hmy"};
        String[] weights = {"1.999", "2", "3.999", "4", "5.999", "6", "999"};
        String[][] want = {below, first, first, second, second, third, third};
        for (int w = 0; w < weights.length; w++) {
            for (int g = 0; g < grants.length; g++) {
                Desk.due("replies for " + weights[w] + " with " + grants[g],
                    lettersFor(grants[g], "count A 1", "score A " + weights[w], "limits 2 4 6"), want[w][g]);
            }
        }
        Desk.due("limits as at first", lettersFor(0x31, "count A 1", "score A 4.999"), "a");
        Desk.due("the first limit at first", lettersFor(0x31, "count A 1", "score A 5"), "hma");
        Desk.due("the second limit at first", lettersFor(0x31, "count A 1", "score A 8"), "hmqa");
        Desk.due("the third limit at first", lettersFor(0x31, "count A 1", "score A 15"), "hmy");
        Desk.due("limits that are the same", lettersFor(0x31, "count A 1", "limits 1 1 1"), "hmy");
        Desk.due("limits below 0", lettersFor(0x31, "limits -1 0 0.001"), "hmqa");
    }

    private static void marks() {
        Desk desk = judged(new String[] {"count ONE 1", "count TWO 0", "count THREE 1", "priority THREE -1", "score THREE 15.02", "limits 1 2 3"}, "");
        String out = desk.output(0);
        Desk.due("h and y", out.substring(15), Desk.packet('h', "X-Sieve\u000016.020 THREE,ONE\0") + Desk.packet('y', "550 5.7.1 score 16.020\0"));
        desk = judged(new String[] {"limits -2 -1 0", "count A 1", "score A -0.5"}, "");
        out = desk.output(0);
        Desk.due("below 0", out.substring(15), Desk.packet('h', "X-Sieve\0-0.500 A\0") + Desk.packet('q', "score -0.500\0") + Desk.packet('a', ""));
        desk = judged(new String[] {"limits 0 1 1"}, "");
        Desk.due("nothing holds", desk.output(0).substring(15), Desk.packet('h', "X-Sieve\u00000.000 \0") + Desk.packet('a', ""));
    }

    private static void subjects() {
        Desk desk = judged(new String[] {"limits 0 1 1"}, "", "X", "y", "sUBJECT", " =?utf-8?Q?a?=\r\n b\u00e9 ", "Subject", "z");
        Desk.due("m", desk.output(0).substring(30), Desk.packet('h', "X-Sieve\u00000.000 \0")
            + Desk.packet('m', "\0\0\0\u0001sUBJECT\0[SPAM] =?utf-8?Q?a?= b\u00e9\0") + Desk.packet('a', ""));
    }

    private static void bounds() {
        Desk desk = judged(new String[] {"count A 1", "count B 1"}, "");
        Desk.due("held -1", desk.sieve.held(0, -1), -1);
        Desk.due("held 1", desk.sieve.held(0, 1), 1);
        Desk.due("held 2", desk.sieve.held(0, 2), -1);
        Desk.due("held of another session", desk.sieve.held(1, 0), -1);
        Desk.due("indicator", desk.sieve.indicator(0), 0.5);
        Desk.due("indicator of another session", desk.sieve.indicator(1), -1.0);
    }
}
