/** Promises 7 to 9: lines, load, order. */
public final class LineTest {
    public static void main(String[] args) {
        wrongPlaces();
        wrongExpressions();
        wrongMetas();
        wrongPrograms();
        wrongZones();
        refusals();
        bounds();
        loading();
        ordering();
        theSetOfAMessageIsThatOfItsBeginning();
        Desk.end();
    }

    private static void line(String text, int want) {
        Desk.due("line " + text, new Desk().line(text), want);
    }

    private static void wrongPlaces() {
        line("", 1);
        line("x", 1);
        line("cle", 4);
        line("clear", 0);
        line("clear ", 6);
        line("Clear", 1);
        line("co", 3);
        line("cox", 3);
        line("header", 7);
        line("header A", 9);
        line("header A ", 10);
        line("header A  x", 10);
        line("header a", 8);
        line("header _A", 8);
        line("header A_9 Subject", 19);
        line("header A Sub1", 13);
        line("header A Subject x", 18);
        line("header A Subject /x/", 0);
        line("header A Subject /x/i", 0);
        line("header A Subject /x/ii", 22);
        line("header A Subject /x/ i", 21);
        line("header A Subject /x", 20);
        line("exists ABCDEFGHIJKLMNOP x", 0);
        line("exists ABCDEFGHIJKLMNOPQ x", 24);
        line("exists A " + "x".repeat(24), 0);
        line("exists A " + "x".repeat(25), 34);
        line("exists A x ", 11);
        line("attach A 12345678", 0);
        line("attach A 123456789", 18);
        line("attach A a.b", 11);
        line("bayes A 1", 10);
        line("bayes A 1 12345", 15);
        line("score A 1.", 11);
        line("score A -", 10);
        line("score A .5", 9);
        line("score A 1.2345", 14);
        line("score A 12345", 13);
        line("priority A +1", 12);
        line("priority A -1.5", 14);
        line("grey -1", 6);
        line("limits 1 2", 11);
        line("limits 1 2 3 ", 13);
        line("body A /a/\u0007", 11);
        line("body A /a\u0080/", 10);
        line("bo\u0080y", 3);
    }

    private static void wrongExpressions() {
        line("body A /(/", 10);
        line("body A /)/", 9);
        line("body A /a{21}/", 12);
        line("body A /(a", 11);
        line("body A /a{20}b{20}/", 0);
        line("body A /(a{20}){20}(b{20}){10}/", 0);
        line("body A /(a{20}){20}(b{20}){10}c/", 32);
        line("body A /(a{20}){20}(b{20}){10}c", 32);
        line("body A /(a{20}){20}(b{20}){10}c*)/", 33);
        line("raw A //", 0);
        line("uri A /\\//", 9);
    }

    private static void wrongMetas() {
        line("meta A B", 0);
        line("meta A b", 8);
        line("meta A B&&", 11);
        line("meta A B&C", 10);
        line("meta A B|C", 10);
        line("meta A B=C", 10);
        line("meta A B<C<D", 11);
        line("meta A (B<C)<D", 0);
        line("meta A B<C&&D>1||!E==2", 0);
        line("meta A B+1-2", 0);
        line("meta A B +1", 9);
        line("meta A (B", 10);
        line("meta A B)", 9);
        line("meta A ()", 9);
        line("meta A 12345", 12);
        line("meta A 1B", 9);
        line("meta A ABCDEFGHIJKLMNOPQ", 24);
        line("meta A " + "(".repeat(10) + "B" + ")".repeat(10), 0);
        line("meta A " + "(".repeat(11) + "B", 18);
        line("meta A " + "!(".repeat(5) + "B" + ")".repeat(5), 0);
        line("meta A " + "!(".repeat(5) + "!B", 18);
        line("meta A " + "!".repeat(10) + "B+!C", 0);
        line("meta (((((((((((((", 6);
        line("meta A", 7);
    }

    private static void wrongPrograms() {
        line("count A 1", 0);
        line("count A ", 9);
        line("count A +", 9);
        line("count A 1 +", 11);
        line("count A 1 !", 0);
        line("count A !", 9);
        line("count A 1 2", 12);
        line("count A 1 2 +", 0);
        line("count A 1  2", 11);
        line("count A part", 13);
        line("count A parts", 0);
        line("count A partsx", 14);
        line("count A cars", 11);
        line("count A chars caps +", 0);
        line("count A 1 +2", 11);
        line("count A 12345", 13);
        line("count A" + " 1".repeat(12) + " +".repeat(11), 0);
        line("count A" + " 1".repeat(13), 33);
        line("count A" + " 1".repeat(12) + " x", 33);
        line("count A parts chars lines heads rcpts uris caps size + - * < = & |", 0);
    }

    private static void wrongZones() {
        line("zone a", 0);
        line("zone", 5);
        line("zone ", 6);
        line("zone .", 6);
        line("zone a.", 8);
        line("zone a..b", 8);
        line("zone A", 6);
        line("zone a-9.b", 0);
        line("zone " + "a".repeat(20), 0);
        line("zone " + "a".repeat(21), 26);
        line("zone " + "a".repeat(20) + "." + "b".repeat(19), 0);
        line("zone " + "a".repeat(20) + "." + "b".repeat(20), 46);
        line("zone " + "a".repeat(20) + "." + "b".repeat(18) + ".", 46);
        line("zone " + "a".repeat(20) + "." + "b".repeat(18) + ".c", 46);
    }

    private static void refusals() {
        Desk desk = new Desk();
        Desk.due("a rule", desk.line("exists A x"), 0);
        Desk.due("its name again", desk.line("body A /x/"), -2);
        Desk.due("score of none", desk.line("score B 1"), -2);
        Desk.due("priority of none", desk.line("priority B 1"), -2);
        Desk.due("score", desk.line("score A -999.999"), 0);
        Desk.due("score of 1000", desk.line("score A 1000"), -2);
        Desk.due("priority", desk.line("priority A -99"), 0);
        Desk.due("priority of 100", desk.line("priority A 100"), -2);
        Desk.due("priority of -100", desk.line("priority A -100"), -2);
        Desk.due("priority of 99", desk.line("priority A 99"), 0);
        Desk.due("score of -1000", desk.line("score A -1000"), -2);
        Desk.due("bayes", desk.line("bayes B 999 1000"), 0);
        Desk.due("bayes of 1001", desk.line("bayes C 999 1001"), -2);
        Desk.due("bayes of equals", desk.line("bayes C 5 5"), -2);
        Desk.due("listed of zone 3", desk.line("listed C 3 1"), -2);
        Desk.due("listed of no bit", desk.line("listed C 2 0"), -2);
        Desk.due("listed", desk.line("listed D 2 255"), 0);
        Desk.due("listed of 256", desk.line("listed C 2 256"), -2);
        Desk.due("grey", desk.line("grey 3600"), 0);
        Desk.due("grey of 3601", desk.line("grey 3601"), -2);
        Desk.due("limits", desk.line("limits -999.999 0 999.999"), 0);
        Desk.due("limits of 1000", desk.line("limits 1 2 1000"), -2);
        for (int i = 0; i < 3; i++) {
            Desk.due("zone " + i, desk.line("zone z"), 0);
        }
        Desk.due("a 4th zone", desk.line("zone y"), -2);
        for (int i = desk.sieve.state(3); i < 24; i++) {
            Desk.due("rule " + i, desk.line("exists R" + i + " x"), 0);
        }
        Desk.due("a 25th rule", desk.line("exists Z x"), -2);
        Desk.due("rules of the draft", desk.sieve.state(3), 24);
        Desk.due("a wrong one is wrong, not refused", desk.line("exists Z x "), 11);
        Desk.due("clear", desk.line("clear"), 0);
        Desk.due("no rules", desk.sieve.state(3), 0);
        Desk.due("zones again", desk.line("zone y"), 0);
    }

    private static void bounds() {
        MailSieve x = new MailSieve();
        Desk.due("line below 0", x.line(-1), -1);
        Desk.due("line of more", x.line(1), -1);
        x.feed(0x636C6561, 0x72000000, 0, 0, 0);
        Desk.due("line of too many", x.line(21), -1);
        Desk.due("the tape stays", x.state(12), 20);
        Desk.due("line", x.line(5), 0);
        Desk.due("the tape is empty", x.state(12), 0);
    }

    private static void loading() {
        Desk desk = new Desk();
        desk.line("exists A x");
        desk.line("meta B A+C");
        desk.line("listed D 0 1");
        Desk.due("a meta of no rule", desk.sieve.load(), -2);
        desk.line("meta C E");
        desk.line("meta E C");
        Desk.due("metas in a ring", desk.sieve.load(), -3);
        desk.line("zone z");
        Desk.due("the ring alone", desk.sieve.load(), -4);
        Desk.due("nothing was loaded", desk.sieve.state(1), 0);
        desk.line("clear");
        desk.line("meta A A");
        Desk.due("a meta of itself", desk.sieve.load(), -1);
        desk.line("clear");
        desk.line("limits 5 4 6");
        Desk.due("limits fall", desk.sieve.load(), -100);
        desk.line("limits 5 5 5");
        desk.line("zone z");
        Desk.due("limits may be the same", desk.sieve.load(), 0);
        Desk.due("zones", desk.sieve.state(2), 1);
        desk.line("limits 5 6 5.999");
        desk.line("meta A B");
        Desk.due("bad comes ahead of limits", desk.sieve.load(), -1);
        Desk.due("the draft stays", desk.sieve.state(3), 1);
    }

    private static void ordering() {
        Desk desk = new Desk();
        desk.line("meta M A&&B");
        desk.line("exists A x");
        desk.line("exists B x");
        desk.line("exists C x");
        desk.line("meta N 1");
        desk.line("priority M -5");
        desk.line("priority B 3");
        desk.line("priority C -1");
        Desk.due("load", desk.sieve.load(), 5);
        int[] want = {3, 1, 4, 2, 0, -1};
        for (int k = 0; k < want.length; k++) {
            Desk.due("order " + k, desk.sieve.order(k), want[k]);
        }
        Desk.due("order below 0", desk.sieve.order(-1), -1);
        desk.line("priority N -2");
        Desk.due("the draft does not change what is loaded", desk.sieve.order(0), 3);
        desk.sieve.load();
        Desk.due("loaded again", desk.sieve.order(0), 4);
    }

    private static void theSetOfAMessageIsThatOfItsBeginning() {
        Desk desk = new Desk();
        desk.line("exists A x");
        desk.sieve.load();
        desk.meet(0, "");
        desk.give(0, Desk.packet('M', "a\0"));
        desk.line("clear");
        desk.line("count B 1");
        desk.line("count C 1");
        desk.sieve.load();
        desk.give(0, Desk.packet('R', "b\0") + Desk.packet('L', "X\0y\0") + Desk.packet('E', ""));
        Desk.due("by the set of its beginning", desk.sieve.session(0, 9), 1);
        desk.give(0, Desk.message(""));
        Desk.due("by the latest set", desk.sieve.session(0, 9), 2);
    }
}
