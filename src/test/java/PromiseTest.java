import java.util.function.Consumer;

/** Promises 1 to 25, each at its bounds: what is answered, and that a refused call does nothing. */
public final class PromiseTest {
    private static final int[] NO_SESSIONS = {-1, 4, 5, Integer.MIN_VALUE, Integer.MAX_VALUE};

    public static void main(String[] args) {
        aNewObject();
        feed();
        open();
        give();
        output();
        clear();
        line();
        load();
        order();
        tick();
        query();
        answer();
        learn();
        expire();
        compact();
        sync();
        crash();
        journal();
        find();
        state();
        session();
        held();
        text();
        indicator();
        entry();
        Desk.end();
    }

    /** An object in which there is something of everything but bytes on the tape; its session 0 waits. */
    private static Desk idle() {
        Desk desk = Desk.with("zone a", "grey 1", "count A 1", "body B /word/", "meta C A&&B", "priority B -1", "score A 6");
        desk.line("count D 1");
        desk.sieve.tick(10);
        desk.meet(0, "10.0.0.1");
        desk.give(0, Desk.packet('M', "<a@b>\0") + Desk.packet('R', "<c@d>\0") + Desk.packet('A', ""));
        desk.sieve.tick(1);
        desk.give(0, Desk.message("some word http://h", "Subject", "sub ject"));
        desk.meet(1, "");
        desk.give(1, Desk.message("some word http://h", "Subject", "sub ject"));
        desk.sieve.learn(1, true);
        desk.sieve.sync();
        desk.sieve.learn(1, false);
        desk.meet(2, "10.0.0.2");
        desk.give(2, "\0\0\0");
        desk.meet(3, "10.0.0.3");
        desk.give(3, Desk.packet('Q', ""));
        desk.sieve.give(1, 0);
        return desk;
    }

    /** The same with twenty bytes on the tape: A B C D and others. */
    private static Desk busy() {
        Desk desk = idle();
        desk.sieve.feed(0x41424344, 2, 3, 4, 5);
        return desk;
    }

    /** All that can be seen of an object. */
    private static String seen(Desk desk) {
        MailSieve x = desk.sieve;
        StringBuilder all = new StringBuilder();
        for (int what = -1; what <= 13; what++) {
            all.append(x.state(what)).append(' ');
        }
        for (int s = 0; s < 4; s++) {
            for (int what = -1; what <= 14; what++) {
                all.append(x.session(s, what)).append(' ');
            }
            for (int i = 0; i < x.session(s, 2); i++) {
                all.append(x.output(s, i)).append(' ');
            }
            all.append(desk.text(s)).append(desk.held(s)).append(x.indicator(s));
        }
        for (int i = 0; x.journal(i) >= 0; i++) {
            all.append(x.journal(i)).append(' ');
        }
        for (int k = 0; x.order(k) >= 0; k++) {
            all.append(x.order(k)).append(' ');
        }
        for (int k = 0; x.query(k, 0) >= 0; k++) {
            for (int i = 0; x.query(k, i) >= 0; i++) {
                all.append(x.query(k, i)).append(' ');
            }
        }
        for (String word : new String[] {"some", "word", "http", "s:sub", "u:h"}) {
            for (int what = 0; what < 3; what++) {
                all.append(x.entry(Desk.digest(word), what)).append(' ');
            }
        }
        return all.toString();
    }

    /** A call that is refused leaves all as it was. */
    private static void nothing(String what, Desk desk, Consumer<MailSieve> call) {
        String before = seen(desk);
        call.accept(desk.sieve);
        Desk.due("nothing is done by " + what, seen(desk), before);
    }

    private static void aNewObject() {
        Desk.of("Promise 1: All sessions closed, an empty draft, a rule set without rules (as the draft), an empty store, journal, greylist, cache; clock 0");
        Desk desk = new Desk();
        for (int what = 0; what <= 12; what++) {
            Desk.due("state " + what, desk.sieve.state(what), 0);
        }
        for (int s = 0; s < 4; s++) {
            for (int what = 0; what <= 13; what++) {
                Desk.due("session " + s + " " + what, desk.sieve.session(s, what), 0);
            }
            Desk.due("output " + s, desk.sieve.output(s, 0), -1);
            Desk.due("held " + s, desk.sieve.held(s, 0), -1);
            Desk.due("text " + s, desk.sieve.text(s, 0), -1);
            Desk.due("indicator " + s, desk.sieve.indicator(s), -1.0);
            Desk.due("learn " + s, desk.sieve.learn(s, true), -1);
        }
        Desk.due("order", desk.sieve.order(0), -1);
        Desk.due("journal", desk.sieve.journal(0), -1);
        Desk.due("query", desk.sieve.query(0, 0), -1);
        desk.meet(0, "10.0.0.1");
        desk.give(0, Desk.message("x", "Subject", "s"));
        Desk.due("by a rule set without rules, zones and grey", desk.letters(0), "ccccca");
        Desk.due("no triplet", desk.sieve.state(11), 0);
        Desk.due("no query", desk.sieve.state(9), 0);
        Desk other = new Desk();
        other.line("count A 1");
        other.sieve.load();
        Desk.due("objects do not share", desk.sieve.state(1), 0);
    }

    private static void feed() {
        Desk.of("Promise 2: Twenty bytes behind those on the tape, of each int the highest first: how many there are; -1, doing nothing, when there would be more than 4,000");
        MailSieve x = new MailSieve();
        for (int i = 1; i <= 200; i++) {
            Desk.due("feed " + i, x.feed(i, -i, i << 24, 0, -1), 20 * i);
        }
        for (int i = 0; i < 3; i++) {
            Desk.due("one too many", x.feed(1, 2, 3, 4, 5), -1);
            Desk.due("bytes", x.state(12), 4000);
        }
        // 1 2 3 4, 127 128 255 0, A B C D behind an expression of twenty signs
        Desk row = new Desk();
        row.tape(Desk.bytes("^[^ -~]{8}ABCD[^ ]*$"));
        row.sieve.feed(0x01020304, 0x7F80FF00, 0x41424344, 0x80000000, 0x000000FF);
        Desk.due("its bytes", row.sieve.find(20, 20, false), 1);
        Desk order = new Desk();
        order.sieve.feed(0x61620000, 0, 0, 0, 0);
        Desk.due("a is ahead of b", order.sieve.find(1, 1, false), 0);
        order.sieve.feed(0x61616262, 0x63636464, 0x65656666, 0x67676868, 0x69696A6A);
        order.sieve.feed(0x61616262, 0x63636464, 0x65656666, 0x67676868, 0x69696A6A);
        Desk.due("the ints one behind the other", order.sieve.find(20, 20, false), 1);
        nothing("a feed without room", full(), y -> y.feed(9, 9, 9, 9, 9));
    }

    private static Desk full() {
        Desk desk = busy();
        while (desk.sieve.state(12) < 4000) {
            desk.sieve.feed(1, 2, 3, 4, 5);
        }
        return desk;
    }

    private static void open() {
        Desk.of("Promise 3: A session is open and FRESH, with nothing of before but its output and what is told of its latest message; false when there is no such session");
        for (int s : NO_SESSIONS) {
            Desk.due("open " + s, new MailSieve().open(s), false);
            nothing("open " + s, busy(), x -> x.open(s));
        }
        for (int s = 0; s < 4; s++) {
            Desk desk = busy();
            int out = desk.sieve.session(s, 2);
            String text = desk.text(s);
            double indicator = desk.sieve.indicator(s);
            int tokens = desk.sieve.session(s, 13);
            Desk.due("open " + s, desk.sieve.open(s), true);
            int[] want = {1, 0, out, 0, 0, 0, 0, 0};
            for (int what = 0; what < 8; what++) {
                Desk.due("session " + s + " " + what, desk.sieve.session(s, what), want[what]);
            }
            Desk.due("its text", desk.text(s), text);
            Desk.due("its indicator", desk.sieve.indicator(s), indicator);
            Desk.due("its tokens", desk.sieve.session(s, 13), tokens);
            Desk.due("the tape stays", desk.sieve.state(12), 20);
        }
        Desk desk = Desk.with("zone a");
        desk.meet(0, "10.0.0.1");
        desk.give(0, Desk.message("x"));
        desk.sieve.open(0);
        int out = desk.sieve.session(0, 2);
        desk.sieve.tick(5);
        Desk.due("one that waited does not go on", desk.sieve.session(0, 2), out);
        Desk.due("it is FRESH", desk.sieve.session(0, 0), 1);
        desk.give(0, Desk.packet('A', ""));
        Desk.due("and takes no A", desk.sieve.session(0, 0), 0);
    }

    private static void give() {
        Desk.of("Promise 4: The tape's first n bytes come to a session, and the tape is empty: how many bytes its output has then. -1, doing nothing, when there is no such session, it is closed, or n is below 0 or more than there are");
        for (int s : NO_SESSIONS) {
            Desk.due("give " + s, busy().sieve.give(s, 0), -1);
            nothing("give " + s, busy(), x -> x.give(s, 1));
        }
        Desk.due("a closed one", busy().sieve.give(3, 0), -1);
        nothing("a give to a closed one", busy(), x -> x.give(3, 0));
        for (int n : new int[] {-1, 21, Integer.MIN_VALUE, Integer.MAX_VALUE}) {
            Desk.due("give of " + n, busy().sieve.give(2, n), -1);
            nothing("a give of " + n, busy(), x -> x.give(2, n));
        }
        for (int n = 0; n <= 20; n++) {
            Desk desk = new Desk();
            desk.sieve.open(0);
            desk.sieve.feed(100, 0, 0, 0, 0);
            Desk.due("give of " + n, desk.sieve.give(0, n), 0);
            Desk.due("bytes kept of " + n, desk.sieve.session(0, 3), n);
            Desk.due("the tape behind " + n, desk.sieve.state(12), 0);
        }
        Desk desk = new Desk();
        desk.sieve.open(0);
        Desk.due("how many bytes of output", desk.give(0, Desk.greeting(0) + Desk.client("")), 22);
        Desk.due("nothing more", desk.sieve.give(0, 0), 22);
        Desk.due("another session's output", desk.sieve.session(1, 2), 0);
    }

    private static void output() {
        Desk.of("Promise 5: Byte i of a session's output; -1 when there is none");
        Desk desk = Desk.in(Desk.greeting(0x31));
        String want = Desk.packet('O', Desk.number(6) + Desk.number(0x31) + Desk.number(0));
        for (int i = -2; i < 20; i++) {
            Desk.due("output " + i, desk.sieve.output(0, i), i >= 0 && i < 17 ? (int) want.charAt(i) : -1);
        }
        for (int i : new int[] {Integer.MIN_VALUE, Integer.MAX_VALUE, 8191, 8192}) {
            Desk.due("output " + i, desk.sieve.output(0, i), -1);
        }
        for (int s : NO_SESSIONS) {
            Desk.due("output of " + s, desk.sieve.output(s, 0), -1);
        }
        desk.give(0, Desk.packet('Q', ""));
        Desk.due("of a closed one", desk.sieve.output(0, 3), 13);
        Desk.due("bytes above 127", highByte(), 0xFF);
    }

    /** A byte 255 of a subject in an output. */
    private static int highByte() {
        Desk desk = Desk.with("limits 0 1 1");
        desk.meet(0, "");
        desk.give(0, Desk.message("", "Subject", "\u00ff"));
        return desk.sieve.output(0, desk.sieve.session(0, 2) - 7);
    }

    private static void clear() {
        Desk.of("Promise 6: A session's output is empty: how many bytes it had; -1 when there is no such session");
        for (int s : NO_SESSIONS) {
            Desk.due("clear " + s, busy().sieve.clear(s), -1);
            nothing("clear " + s, busy(), x -> x.clear(s));
        }
        for (int s = 0; s < 4; s++) {
            Desk desk = busy();
            int had = desk.sieve.session(s, 2);
            int state = desk.sieve.session(s, 0);
            Desk.due("clear " + s, desk.sieve.clear(s), had);
            Desk.due("bytes then", desk.sieve.session(s, 2), 0);
            Desk.due("no byte", desk.sieve.output(s, 0), -1);
            Desk.due("clear again", desk.sieve.clear(s), 0);
            Desk.due("the state stays", desk.sieve.session(s, 0), state);
        }
    }

    private static void line() {
        Desk.of("Promise 7: The tape's first n bytes are a line for the draft, and the tape is empty: 0 it is done; 1 more than the place at which it is wrong; -2 it is refused. -1, doing nothing, when n is below 0 or more than there are");
        for (int n : new int[] {-1, 21, Integer.MIN_VALUE, Integer.MAX_VALUE}) {
            Desk.due("line of " + n, busy().sieve.line(n), -1);
            nothing("a line of " + n, busy(), x -> x.line(n));
        }
        String[] lines = {"", "exists NEW x", "exists A x", "exists x"};
        int[] answers = {1, 0, -2, 8};
        for (int i = 0; i < lines.length; i++) {
            Desk desk = idle();
            int rules = desk.sieve.state(3);
            Desk.due("line " + lines[i], desk.line(lines[i]), answers[i]);
            Desk.due("the tape behind " + lines[i], desk.sieve.state(12), 0);
            Desk.due("rules of the draft", desk.sieve.state(3), rules + (answers[i] == 0 ? 1 : 0));
            Desk.due("the rule set stays", desk.sieve.state(1), 3);
        }
        Desk desk = new Desk();
        desk.tape(Desk.bytes("clear then what"));
        Desk.due("the first five alone", desk.sieve.line(5), 0);
        desk.tape(Desk.bytes("clear then what"));
        Desk.due("none of them", desk.sieve.line(0), 1);
        Desk.due("the tape is empty", desk.sieve.state(12), 0);
        String longest = "body A /" + "[" + "a".repeat(3989) + "]/";
        Desk.due("a line of 4,000", desk.line(longest), 0);
        Desk.due("its length", longest.length(), 4000);
    }

    private static void load() {
        Desk.of("Promise 8: The draft is loaded: how many rules it has (the draft stays). -1 less the number of the first BAD rule; -100, when none is BAD, but limits do not rise; nothing is done then");
        Desk.due("none", new MailSieve().load(), 0);
        Desk desk = new Desk();
        for (int i = 0; i < 24; i++) {
            desk.line("count R" + i + " 1");
            Desk.due("load of " + (i + 1), desk.sieve.load(), i + 1);
            Desk.due("rules", desk.sieve.state(1), i + 1);
            Desk.due("the draft stays", desk.sieve.state(3), i + 1);
        }
        for (int bad = 0; bad < 24; bad += 23) {
            Desk wrong = new Desk();
            for (int i = 0; i < 24; i++) {
                wrong.line(i == bad ? "meta R" + i + " X" : "count R" + i + " 1");
            }
            Desk.due("bad at " + bad, wrong.sieve.load(), -1 - bad);
            Desk.due("no rules", wrong.sieve.state(1), 0);
        }
        Desk later = idle();
        later.line("meta X Y");
        nothing("a load with a bad rule", later, MailSieve::load);
        Desk falling = idle();
        falling.line("limits 2 1 3");
        nothing("a load with limits that fall", falling, MailSieve::load);
        Desk.due("it is -100", falling.sieve.load(), -100);
        falling.line("limits 1 1 3");
        Desk.due("load", falling.sieve.load(), 4);
        Desk.of("Promise 8: it is the rule set for messages that begin from now on");
        Desk begun = Desk.with("count A 1");
        begun.meet(0, "");
        begun.meet(1, "");
        begun.give(0, Desk.packet('M', "a\0"));
        begun.line("count B 1");
        begun.sieve.load();
        begun.give(1, Desk.packet('M', "a\0"));
        for (int s = 0; s < 2; s++) {
            begun.give(s, Desk.packet('R', "b\0") + Desk.packet('N', "") + Desk.packet('E', "x"));
            Desk.due("rules that hold in session " + s, begun.sieve.session(s, 9), s + 1);
        }
    }

    private static void order() {
        Desk.of("Promise 9: The rule that is k-th in the ORDER of the rule set that was loaded latest; -1 when there are not so many");
        Desk desk = Desk.with("count A 1", "count B 1", "priority B -1");
        int[] want = {-1, 1, 0, -1, -1};
        for (int k = -1; k <= 3; k++) {
            Desk.due("order " + k, desk.sieve.order(k), want[k + 1]);
        }
        for (int k : new int[] {23, 24, Integer.MAX_VALUE, Integer.MIN_VALUE}) {
            Desk.due("order " + k, desk.sieve.order(k), -1);
        }
        desk.line("clear");
        Desk.due("the draft does not count", desk.sieve.order(1), 0);
        desk.sieve.load();
        Desk.due("none left", desk.sieve.order(0), -1);
    }

    private static void tick() {
        Desk.of("Promise 10: So many seconds (1 to 86,400) more on the clock: it. -1, doing nothing, when they are not so, or the clock would be above its bound");
        for (int seconds : new int[] {0, -1, 86401, Integer.MAX_VALUE, Integer.MIN_VALUE}) {
            Desk.due("tick " + seconds, busy().sieve.tick(seconds), -1);
            nothing("tick " + seconds, busy(), x -> x.tick(seconds));
        }
        MailSieve x = new MailSieve();
        Desk.due("tick 1", x.tick(1), 1);
        Desk.due("tick 86,400", x.tick(86400), 86401);
        Desk late = new Desk();
        for (int i = 0; i < 1157; i++) {
            late.sieve.tick(86400);
        }
        late.sieve.tick(99999990 - late.sieve.state(0));
        late.line("zone a");
        late.sieve.load();
        late.meet(0, "10.0.0.1");
        late.give(0, Desk.message("x"));
        nothing("a tick behind the bound", late, y -> y.tick(11));
        Desk.due("up to the bound", late.sieve.tick(10), 100000000);
        Desk.due("its session went on", late.sieve.session(0, 0), 3);
        Desk.of("Promise 10: queries that are over go, and sessions that waited for them go on");
        Desk desk = Desk.with("zone a");
        desk.meet(0, "10.0.0.1");
        desk.sieve.tick(2);
        desk.meet(1, "10.0.0.2");
        desk.give(0, Desk.message("x"));
        desk.give(1, Desk.message("x"));
        desk.sieve.tick(2);
        Desk.due("both wait", desk.sieve.session(0, 0) + desk.sieve.session(1, 0), 16);
        desk.sieve.tick(1);
        Desk.due("the first goes on", desk.sieve.session(0, 0), 3);
        Desk.due("the second waits", desk.sieve.session(1, 0), 8);
        Desk.due("one query", desk.sieve.state(9), 1);
        desk.sieve.tick(2);
        Desk.due("the second goes on", desk.sieve.session(1, 0), 3);
    }

    private static void query() {
        Desk.of("Promise 11: Byte i of the packet of the k-th open query (0 the oldest); -1 when there is none");
        Desk desk = Desk.with("zone a", "zone b");
        Desk.due("none yet", desk.sieve.query(0, 0), -1);
        desk.meet(0, "1.2.3.4");
        int[] edges = {-1, 0, 1, 2, 11, 12, Integer.MIN_VALUE, Integer.MAX_VALUE};
        for (int k : edges) {
            Desk.due("query " + k, desk.sieve.query(k, 1), k == 0 || k == 1 ? k + 1 : -1);
        }
        for (int i : new int[] {-1, 27, 28, 80, Integer.MIN_VALUE, Integer.MAX_VALUE}) {
            Desk.due("byte " + i, desk.sieve.query(0, i), -1);
        }
        Desk.due("the last byte", desk.sieve.query(0, 26), 1);
        Desk.due("the first byte", desk.sieve.query(0, 0), 0);
    }

    private static void answer() {
        Desk.of("Promise 12: The tape's first n bytes are an answer, and the tape is empty: 1 it is taken, 0 it is not (nothing is done). -1, doing nothing, when n is below 0 or more than there are");
        for (int n : new int[] {-1, 21, Integer.MIN_VALUE, Integer.MAX_VALUE}) {
            Desk.due("answer of " + n, busy().sieve.answer(n), -1);
            nothing("an answer of " + n, busy(), x -> x.answer(n));
        }
        for (int n : new int[] {0, 1, 12, 20}) {
            Desk desk = busy();
            Desk.due("answer of " + n, desk.sieve.answer(n), 0);
            Desk.due("the tape behind " + n, desk.sieve.state(12), 0);
            Desk.due("nothing else is done by " + n, seen(desk), seen(idle()));
        }
    }

    private static void learn() {
        Desk.of("Promise 13: The message that a session judged latest is learnt: how many entries there are then. -1 when it judged none, or that was GREAT; -2 when the journal has no room; nothing is done then");
        for (int s : NO_SESSIONS) {
            Desk.due("learn " + s, busy().sieve.learn(s, true), -1);
            nothing("learn " + s, busy(), x -> x.learn(s, false));
        }
        nothing("learn of one that judged none", busy(), x -> x.learn(2, true));
        Desk.due("learn of one that judged none", busy().sieve.learn(2, true), -1);
        Desk great = idle();
        great.meet(2, "");
        great.give(2, Desk.message("x".repeat(6001)));
        Desk.due("learn of a great one", great.sieve.learn(2, true), -1);
        nothing("learn of a great one", great, x -> x.learn(2, true));
        Desk desk = idle();
        int entries = desk.sieve.state(4);
        Desk.due("again and again", desk.sieve.learn(1, true), entries);
        desk.give(1, Desk.message("quite other things"));
        Desk.due("the latest one", desk.sieve.learn(1, true), entries + 3);
        desk.give(1, Desk.packet('Q', ""));
        Desk.due("of a closed session", desk.sieve.learn(1, true), entries + 3);
        Desk waiting = Desk.with("zone a");
        waiting.meet(0, "10.0.0.1");
        waiting.give(0, Desk.message("some words"));
        Desk.due("of one that waits it is not judged yet", waiting.sieve.learn(0, true), -1);
        waiting.sieve.tick(5);
        Desk.due("now it is", waiting.sieve.learn(0, true), 2);
        Desk full = idle();
        full.meet(2, "");
        full.give(2, Desk.message(""));
        for (int i = 0; i < 2000 && full.sieve.state(7) + 8 <= 12000; i++) {
            full.sieve.learn(2, true);
        }
        Desk.due("no room", full.sieve.learn(1, true), -2);
        nothing("learn without room", full, x -> x.learn(1, true));
        Desk.due("-1 goes ahead", full.sieve.learn(3, true), -1);
    }

    private static void expire() {
        Desk.of("Promise 14: Expiry at a time (0 to 100,000,000): how many entries went. -1 when it is not so; -2 when the journal has no room; nothing is done then");
        for (int t : new int[] {-1, 100000001, Integer.MIN_VALUE, Integer.MAX_VALUE}) {
            Desk.due("expire " + t, busy().sieve.expire(t), -1);
            nothing("expire " + t, busy(), x -> x.expire(t));
        }
        int entries = busy().sieve.state(4);
        for (int t : new int[] {0, 11, 12, 100000000}) {
            Desk desk = busy();
            int bytes = desk.sieve.state(7);
            Desk.due("expire " + t, desk.sieve.expire(t), t > 11 ? entries : 0);
            Desk.due("bytes behind expire " + t, desk.sieve.state(7), bytes + 6);
        }
        Desk full = busy();
        for (int i = 0; i < 2100 && full.sieve.expire(0) == 0; i++) {
            Desk.due("room", full.sieve.state(7) <= 12000, true);
        }
        Desk.due("no room", full.sieve.expire(12), -2);
        nothing("expire without room", full, x -> x.expire(12));
        Desk.due("-1 goes ahead", full.sieve.expire(-1), -1);
    }

    private static void compact() {
        Desk.of("Promise 15: The journal becomes a record 3 and one 4 for each entry, in their order, all synced: how many bytes it has");
        Desk empty = new Desk();
        Desk.due("of an empty store", empty.sieve.compact(), 6);
        int[] want = {3, 0, 0, 0, 0, 3};
        for (int i = 0; i <= 6; i++) {
            Desk.due("byte " + i, empty.sieve.journal(i), i < 6 ? want[i] : -1);
        }
        Desk.due("synced", empty.sieve.state(8), 6);
        Desk desk = busy();
        int entries = desk.sieve.state(4);
        Desk.due("of some", desk.sieve.compact(), 6 + 18 * entries);
        Desk.due("all synced", desk.sieve.state(8), 6 + 18 * entries);
        Desk.due("compact again", desk.sieve.compact(), 6 + 18 * entries);
        String before = seen(desk);
        Desk.due("a crash", desk.sieve.crash(0), 6 + 18 * entries);
        Desk.due("changes nothing then", seen(desk), before);
    }

    private static void sync() {
        Desk.of("Promise 16: All of the journal is synced: how many bytes it has");
        Desk.due("of none", new MailSieve().sync(), 0);
        Desk desk = busy();
        int bytes = desk.sieve.state(7);
        Desk.due("ahead of it", desk.sieve.state(8) < bytes, true);
        Desk.due("sync", desk.sieve.sync(), bytes);
        Desk.due("synced", desk.sieve.state(8), bytes);
        Desk.due("again", desk.sieve.sync(), bytes);
        desk.sieve.expire(0);
        Desk.due("what comes later is not", desk.sieve.state(8), bytes);
    }

    private static void crash() {
        Desk.of("Promise 17: A crash that leaves n bytes behind those that are synced: how many bytes the journal has then. -1, doing nothing, when n is below 0 or more than there are");
        Desk some = busy();
        int more = some.sieve.state(7) - some.sieve.state(8);
        for (int n : new int[] {-1, more + 1, Integer.MIN_VALUE, Integer.MAX_VALUE}) {
            Desk.due("crash " + n, busy().sieve.crash(n), -1);
            nothing("crash " + n, busy(), x -> x.crash(n));
        }
        Desk.due("crash of all", busy().sieve.crash(more), some.sieve.state(7));
        Desk.due("crash of all but one", busy().sieve.crash(more - 1), some.sieve.state(8));
        Desk.due("crash of none", busy().sieve.crash(0), some.sieve.state(8));
        Desk.of("Promise 17: (All but the store and the journal stays.)");
        Desk desk = busy();
        String before = seen(desk);
        desk.sieve.crash(more);
        desk.sieve.crash(0);
        Desk other = busy();
        other.sieve.sync();
        Desk.due("all is as it was, and synced", seen(desk), seen(other));
        Desk.due("that was not so", before.equals(seen(other)), false);
        Desk lost = new Desk();
        lost.line("count A 1");
        lost.sieve.load();
        lost.meet(0, "");
        lost.give(0, Desk.message("one two"));
        lost.sieve.tick(9);
        lost.sieve.learn(0, true);
        lost.sieve.feed(1, 2, 3, 4, 5);
        lost.sieve.crash(0);
        int[] want = {9, 1, 0, 1, 0, 0, 0, 0, 0, 0, 0, 0, 20};
        for (int what = 0; what <= 12; what++) {
            Desk.due("state " + what + " behind a crash", lost.sieve.state(what), want[what]);
        }
        Desk.due("the session stays", lost.sieve.session(0, 0), 3);
        Desk.due("what was judged stays", lost.text(0), "one two\n");
        Desk.due("and can be learnt again", lost.sieve.learn(0, true), 2);
    }

    private static void journal() {
        Desk.of("Promise 18: Byte i of the journal; -1 when there is none");
        Desk desk = new Desk();
        desk.sieve.expire(0x01020304);
        int[] want = {2, 1, 2, 3, 4, 12};
        for (int i = -1; i <= 7; i++) {
            Desk.due("journal " + i, desk.sieve.journal(i), i >= 0 && i < 6 ? want[i] : -1);
        }
        for (int i : new int[] {11999, 12000, Integer.MAX_VALUE, Integer.MIN_VALUE}) {
            Desk.due("journal " + i, desk.sieve.journal(i), -1);
        }
        Desk high = new Desk();
        high.sieve.expire(255);
        Desk.due("a byte above 127", high.sieve.journal(4), 255);
        Desk.due("a sum that goes round", high.sieve.journal(5), 1);
    }

    private static void find() {
        Desk.of("Promise 19: 1 it is found in it, 0 it is not; -2 less the place at which it is wrong (a byte that is not 32 to 126, or is /, is wrong). -1, doing nothing, when n or m is below 0, or both are more than there are");
        int[][] refused = {{-1, 0}, {0, -1}, {-1, 1}, {1, -1}, {21, 0}, {0, 21}, {20, 1}, {10, 11}, {Integer.MAX_VALUE, 1}, {1, Integer.MAX_VALUE},
            {Integer.MAX_VALUE, Integer.MAX_VALUE}, {Integer.MIN_VALUE, 5}, {5, Integer.MIN_VALUE},
            {Integer.MIN_VALUE, Integer.MIN_VALUE}};
        for (int[] nm : refused) {
            Desk.due("find " + nm[0] + " " + nm[1], busy().sieve.find(nm[0], nm[1], false), -1);
            nothing("find " + nm[0] + " " + nm[1], busy(), x -> x.find(nm[0], nm[1], true));
        }
        int[][] right = {{0, 0}, {0, 20}, {4, 16}, {4, 0}, {1, 3}, {3, 1}};
        int[] answers = {1, 1, 0, 0, 0, 0};
        for (int i = 0; i < right.length; i++) {
            Desk desk = busy();
            Desk.due("find " + right[i][0] + " " + right[i][1], desk.sieve.find(right[i][0], right[i][1], false), answers[i]);
            Desk.due("the tape is empty", desk.sieve.state(12), 0);
        }
        Desk wrong = busy();
        Desk.due("a byte 0 at place 4", wrong.sieve.find(5, 0, false), -6);
        Desk.due("the tape is empty then, too", wrong.sieve.state(12), 0);
        Desk desk = new Desk();
        Desk.due("small", desk.find("ab", "xABy", true), 1);
        Desk.due("not small", desk.find("ab", "xABy", false), 0);
        Desk.due("wrong at 0", desk.find("/", "", false), -2);
        Desk.due("4,000 bytes", desk.find("a", "b".repeat(3998) + "a", false), 1);
        Desk.due("an expression of 3,999", desk.find("[" + "a".repeat(3996) + "b]", "b", false), 1);
        Desk.due("nothing in 4,000 bytes", desk.find("", "b".repeat(4000), false), 1);
        Desk.due("wrong at 4,000", desk.find("[" + "a".repeat(3999), "", false), -4002);
        nothing("a find of nothing on an empty tape", new Desk(), x -> x.find(0, 0, false));
    }

    private static void state() {
        Desk.of("Promise 20: state; -1 for others");
        for (int what : new int[] {-1, 13, 14, Integer.MIN_VALUE, Integer.MAX_VALUE}) {
            Desk.due("state " + what, busy().sieve.state(what), -1);
        }
        Desk desk = busy();
        // 11 seconds; three rules, one zone, one rule more in the draft; six tokens, learnt twice; three queries
        int[] want = {11, 3, 1, 4, 6, 1, 1, 2 * (8 + 8 * 6), 8 + 8 * 6, 3, 0, 1, 20};
        for (int what = 0; what <= 12; what++) {
            Desk.due("state " + what, desk.sieve.state(what), want[what]);
        }
    }

    private static void session() {
        Desk.of("Promise 21: session; -1 when there is no such session or what");
        for (int s : NO_SESSIONS) {
            for (int what = 0; what <= 13; what++) {
                Desk.due("session " + s + " " + what, busy().sieve.session(s, what), -1);
            }
        }
        for (int what : new int[] {-1, 14, Integer.MIN_VALUE, Integer.MAX_VALUE}) {
            for (int s = 0; s < 4; s++) {
                Desk.due("session " + s + " " + what, busy().sieve.session(s, what), -1);
            }
        }
        Desk.of("Promise 21: 1 what is granted (0 without O since it was opened, and when it has closed); of its message 4 to 7 (all 0 without one); of the message that it judged latest 8 to 13 (all 0 without one)");
        Desk desk = new Desk();
        desk.sieve.open(0);
        desk.give(0, Desk.greeting(0x31));
        Desk.due("granted", desk.sieve.session(0, 1), 0x31);
        desk.sieve.open(0);
        Desk.due("opened again", desk.sieve.session(0, 1), 0);
        desk.give(0, Desk.greeting(0x20) + Desk.client("") + Desk.packet('M', "a\0"));
        int[] begun = {4, 0x20, desk.sieve.session(0, 2), 0, 0, 0, 0, 0, 0, 0, 0, 0, 0, 0};
        for (int what = 0; what <= 13; what++) {
            Desk.due("session " + what + " of one that began", desk.sieve.session(0, what), begun[what]);
        }
        desk.give(0, Desk.packet('R', "a\0").repeat(2) + Desk.packet('L', "a\0b\0").repeat(3) + Desk.packet('N', "") + Desk.packet('B',
            "word http://h") + "\0\0\0\u0009U");
        int[] grown = {7, 0x20, desk.sieve.session(0, 2), 5, 2, 3, 13, 0, 0, 0, 0, 0, 0, 0};
        for (int what = 0; what <= 13; what++) {
            Desk.due("session " + what + " of one that grew", desk.sieve.session(0, what), grown[what]);
        }
        desk.give(0, "12345678" + Desk.packet('E', ""));
        int[] judged = {3, 0x20, desk.sieve.session(0, 2), 0, 0, 0, 0, 0, 0, 0, 1, 14, 1, 3};
        for (int what = 0; what <= 13; what++) {
            Desk.due("session " + what + " of one that was judged", desk.sieve.session(0, what), judged[what]);
        }
        desk.give(0, Desk.packet('M', "a\0") + Desk.packet('R', "b\0"));
        Desk.due("the next one's recipients", desk.sieve.session(0, 4), 1);
        Desk.due("the latest one's chars", desk.sieve.session(0, 11), 14);
        desk.give(0, Desk.packet('Q', ""));
        int[] closed = {0, 0, desk.sieve.session(0, 2), 0, 0, 0, 0, 0, 0, 0, 1, 14, 1, 3};
        for (int what = 0; what <= 13; what++) {
            Desk.due("session " + what + " of one that closed", desk.sieve.session(0, what), closed[what]);
        }
    }

    private static void held() {
        Desk.of("Promise 22: The k-th rule, in ORDER, that holds of the message that a session judged latest; -1 when there is none");
        Desk desk = Desk.with("count A 1", "count B 0", "count C 1", "priority C -1").judge("");
        int[] want = {-1, 2, 0, -1, -1};
        for (int k = -1; k <= 3; k++) {
            Desk.due("held " + k, desk.sieve.held(0, k), want[k + 1]);
        }
        for (int k : new int[] {23, 24, Integer.MIN_VALUE, Integer.MAX_VALUE}) {
            Desk.due("held " + k, desk.sieve.held(0, k), -1);
        }
        for (int s : NO_SESSIONS) {
            Desk.due("held of " + s, desk.sieve.held(s, 0), -1);
        }
        Desk.due("of one that judged none", desk.sieve.held(1, 0), -1);
        String[] lines = new String[24];
        for (int i = 0; i < 24; i++) {
            lines[i] = "count R" + i + " 1";
        }
        desk = Desk.with(lines).judge("");
        Desk.due("the 24th", desk.sieve.held(0, 23), 23);
        Desk.due("behind it", desk.sieve.held(0, 24), -1);
    }

    private static void text() {
        Desk.of("Promise 23: Char i of the text of the message that a session judged latest; -1 when there is none");
        Desk desk = new Desk().judge("ab");
        int[] want = {-1, 'a', 'b', 10, -1, -1};
        for (int i = -1; i <= 4; i++) {
            Desk.due("text " + i, desk.sieve.text(0, i), want[i + 1]);
        }
        for (int i : new int[] {7999, 8000, Integer.MIN_VALUE, Integer.MAX_VALUE}) {
            Desk.due("text " + i, desk.sieve.text(0, i), -1);
        }
        for (int s : NO_SESSIONS) {
            Desk.due("text of " + s, desk.sieve.text(s, 0), -1);
        }
        desk.judge("x", "Content-Type", "image/x");
        Desk.due("a shorter one leaves nothing of the one before", desk.sieve.text(0, 0), -1);
        Desk.due("the greatest char", new Desk().judge("&#1114111;", "Content-Type", "text/html").sieve.text(0, 0), 1114111);
    }

    private static void indicator() {
        Desk.of("Promise 24: The indicator of the message that a session judged latest; -1.0 when there is none, or it was GREAT");
        Desk desk = new Desk();
        for (int s : NO_SESSIONS) {
            Desk.due("indicator of " + s, desk.sieve.indicator(s), -1.0);
        }
        Desk.due("none judged", desk.sieve.indicator(0), -1.0);
        desk.judge("x");
        Desk.due("judged", desk.sieve.indicator(0), 0.5);
        desk.judge("x".repeat(6001));
        Desk.due("great", desk.sieve.indicator(0), -1.0);
        desk.judge("x");
        Desk.due("judged again", desk.sieve.indicator(0), 0.5);
        Desk.due("another session", desk.sieve.indicator(1), -1.0);
    }

    private static void entry() {
        Desk.of("Promise 25: SPAM (what 0), HAM (1), LAST (2) of a digest's entry; -1 when there is none, or no such what");
        Desk desk = new Desk();
        desk.sieve.tick(77);
        desk.judge("word");
        desk.sieve.learn(0, true);
        desk.sieve.learn(0, true);
        desk.sieve.learn(0, false);
        int[] want = {-1, 2, 1, 77, -1};
        for (int what = -1; what <= 3; what++) {
            Desk.due("entry " + what, desk.sieve.entry(Desk.digest("word"), what), want[what + 1]);
            for (long digest : new long[] {0, -1, 1, Desk.digest("word") + 1, Long.MIN_VALUE, Long.MAX_VALUE, (int) Desk.digest("word"),
                Desk.digest("word") ^ 1L << 63}) {
                Desk.due("entry of " + digest, desk.sieve.entry(digest, what), -1);
            }
        }
        for (int what : new int[] {Integer.MIN_VALUE, Integer.MAX_VALUE}) {
            Desk.due("entry " + what, desk.sieve.entry(Desk.digest("word"), what), -1);
        }
    }
}
