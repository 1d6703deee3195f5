import java.util.Arrays;

/** A mail filter that a mail server calls by packets; ../shared/DOC.md says what each call promises. */
public final class MailSieve {
    private static final int MOST_TAPE = 4000;
    private static final int MOST_TIME = 100000000;
    private static final int SESSIONS = 4;

    private static final int CLOSED = 0;
    private static final int FRESH = 1;
    private static final int READY = 2;
    private static final int MET = 3;
    private static final int MAIL = 4;
    private static final int RCPT = 5;
    private static final int HEAD = 6;
    private static final int BODY = 7;
    private static final int WAITING = 8;
    /** Between an E and its judging; no call ends while a session is in it. */
    private static final int JUDGING = 9;

    private static final int DATA = 5;
    private static final int MARK_GRANT = 0x01;
    private static final int SUBJECT_GRANT = 0x10;
    private static final int HOLD_GRANT = 0x20;
    private static final int MOST_RECIPIENTS = 20;
    private static final long DIGEST_START = -3750763034362895579L;

    private final byte[] tape = new byte[MOST_TAPE];
    private int tapeLength;
    private int clock;
    private final Session[] sessions = new Session[SESSIONS];
    private final RuleSet draft = new RuleSet();
    private RuleSet loaded = new RuleSet();
    private final Regex regex = new Regex();
    private final LineReader reader = new LineReader();
    private final Letter letter = new Letter();
    private final Store store = new Store();
    private final Lookups lookups = new Lookups();
    private final Greylist greylist = new Greylist();
    private final int[] row = new int[MOST_TAPE];
    private final int[] stack = new int[Rule.MOST_STACK];
    private final int[] facts = new int[8];

    public MailSieve() {
        for (int s = 0; s < SESSIONS; s++) {
            sessions[s] = new Session();
        }
    }

    // ---- the tape and the sessions

    public int feed(int a, int b, int c, int d, int e) {
        if (tapeLength + 20 > MOST_TAPE) {
            return -1;
        }
        tapeNumber(a);
        tapeNumber(b);
        tapeNumber(c);
        tapeNumber(d);
        tapeNumber(e);
        return tapeLength;
    }

    private void tapeNumber(int number) {
        for (int shift = 24; shift >= 0 && tapeLength < MOST_TAPE; shift -= 8) {
            tape[tapeLength] = (byte) (number >> shift);
            tapeLength++;
        }
    }

    private Session sessionAt(int s) {
        return s < 0 || s >= SESSIONS ? null : sessions[s];
    }

    public boolean open(int s) {
        Session session = sessionAt(s);
        if (session == null) {
            return false;
        }
        session.shut();
        session.state = FRESH;
        return true;
    }

    public int give(int s, int n) {
        Session session = sessionAt(s);
        if (session == null || session.state == CLOSED || n < 0 || n > tapeLength) {
            return -1;
        }
        for (int i = 0; i < n && session.state != CLOSED; i++) {
            if (session.takeByte(tape[i])) {
                runPacket(session);
            }
            // from here, not from the command, so that calls do not go too deep
            if (session.state == JUDGING && weighs(session)) {
                conclude(session);
            }
        }
        tapeLength = 0;
        return session.outLength;
    }

    public int output(int s, int i) {
        Session session = sessionAt(s);
        if (session == null || i < 0 || i >= session.outLength) {
            return -1;
        }
        return session.out[i] & 255;
    }

    public int clear(int s) {
        Session session = sessionAt(s);
        if (session == null) {
            return -1;
        }
        int had = session.outLength;
        session.outLength = 0;
        return had;
    }

    // ---- the rules

    public int line(int n) {
        if (n < 0 || n > tapeLength) {
            return -1;
        }
        tapeLength = 0;
        reader.read(tape, n);
        if (reader.expects()) {
            reader.endExpression(regex.compile(tape, reader.wantedFrom, reader.wantedTo, reader.wantedFlag));
        }
        return reader.carryOut(draft, regex);
    }

    public int load() {
        int bad = draft.firstBad();
        if (bad >= 0) {
            return -1 - bad;
        }
        if (!draft.limitsRise()) {
            return -100;
        }
        loaded = new RuleSet(draft);
        loaded.arrange();
        return loaded.count;
    }

    public int order(int k) {
        return k < 0 || k >= loaded.count ? -1 : loaded.sequence[k];
    }

    // ---- the clock and the lookups

    public int tick(int seconds) {
        if (seconds < 1 || seconds > 86400 || clock + seconds > MOST_TIME) {
            return -1;
        }
        clock += seconds;
        lookups.dropOld(clock);
        for (int s = 0; s < SESSIONS; s++) {
            if (resumes(sessions[s])) {
                conclude(sessions[s]);
            }
        }
        return clock;
    }

    public int query(int k, int i) {
        return lookups.packetByte(k, i);
    }

    public int answer(int n) {
        if (n < 0 || n > tapeLength) {
            return -1;
        }
        tapeLength = 0;
        if (!lookups.takeAnswer(tape, n, clock)) {
            return 0;
        }
        for (int s = 0; s < SESSIONS; s++) {
            if (resumes(sessions[s])) {
                conclude(sessions[s]);
            }
        }
        return 1;
    }

    /** Whether a session has waited long enough; then the letter holds its message. */
    private boolean resumes(Session s) {
        if (s.state != WAITING || waits(s)) {
            return false;
        }
        letter.takeApart(s.mail);
        return true;
    }

    // ---- the store

    public int learn(int s, boolean spam) {
        Session session = sessionAt(s);
        if (session == null || !session.judged || session.great) {
            return -1;
        }
        return store.learnMessage(session.tokens, session.told[Session.TOKENS], spam, clock);
    }

    public int expire(int t) {
        return t < 0 || t > MOST_TIME ? -1 : store.expireAt(t);
    }

    public int compact() {
        return store.rewrite();
    }

    public int sync() {
        store.synced = store.journalLength;
        return store.synced;
    }

    public int crash(int n) {
        if (n < 0 || n > store.journalLength - store.synced) {
            return -1;
        }
        return store.restart(store.synced + n);
    }

    public int journal(int i) {
        return i < 0 || i >= store.journalLength ? -1 : store.journal[i] & 255;
    }

    public int find(int n, int m, boolean small) {
        if (n < 0 || m < 0 || n > tapeLength || m > tapeLength - n) {
            return -1;
        }
        tapeLength = 0;
        int wrong = regex.compile(tape, 0, n, small);
        if (wrong >= 0) {
            return -2 - wrong;
        }
        for (int i = 0; i < m; i++) {
            row[i] = tape[n + i] & 255;
        }
        return regex.foundIn(regex.code, regex.sets, row, 0, m) ? 1 : 0;
    }

    // ---- what is told

    public int state(int what) {
        switch (what) {
            case 0: return clock;
            case 1: return loaded.count;
            case 2: return loaded.zoneCount;
            case 3: return draft.count;
            case 4: return store.count;
            case 5: return store.spamTotal;
            case 6: return store.hamTotal;
            case 7: return store.journalLength;
            case 8: return store.synced;
            case 9: return lookups.queryCount;
            case 10: return lookups.cacheCount;
            case 11: return greylist.count;
            case 12: return tapeLength;
            default: return -1;
        }
    }

    public int session(int s, int what) {
        Session session = sessionAt(s);
        if (session == null) {
            return -1;
        }
        switch (what) {
            case 0: return session.state;
            case 1: return session.granted;
            case 2: return session.outLength;
            case 3: return session.packetLength;
            case 4: return session.mail.recipients;
            case 5: return session.mail.headerCount;
            case 6: return session.mail.bodyLength;
            case 7: return session.mail.great ? 1 : 0;
            default: return what < 8 || what > 13 ? -1 : session.told[what - 8];
        }
    }

    public int held(int s, int k) {
        Session session = sessionAt(s);
        if (session == null || k < 0 || k >= session.told[Session.HELD]) {
            return -1;
        }
        return session.heldRules[k];
    }

    public int text(int s, int i) {
        Session session = sessionAt(s);
        if (session == null || i < 0 || i >= session.told[Session.CHARS]) {
            return -1;
        }
        return session.chars[i];
    }

    public double indicator(int s) {
        Session session = sessionAt(s);
        return session == null || !session.judged ? -1.0 : session.indicator;
    }

    public int entry(long digest, int what) {
        int at = store.indexOf(digest);
        if (at < 0) {
            return -1;
        }
        switch (what) {
            case 0: return store.spams[at];
            case 1: return store.hams[at];
            case 2: return store.lasts[at];
            default: return -1;
        }
    }

    // ---- the commands of a session

    private void runPacket(Session s) {
        int end = s.packetLength;
        s.packetLength = 0;
        int command = s.packet[4];
        if ((statesOf(command) >> s.state & 1) == 0 || !carryOut(s, command, end)) {
            s.shut();
        }
    }

    /** The states in which a command may come, a bit each. */
    private static int statesOf(int command) {
        switch (command) {
            case 'O': return 1 << FRESH;
            case 'C': return 1 << READY;
            case 'H': case 'M': return 1 << MET;
            case 'R': return 1 << MAIL | 1 << RCPT;
            case 'T': return 1 << RCPT;
            case 'L': case 'N': return 1 << RCPT | 1 << HEAD;
            case 'B': return 1 << BODY;
            case 'E': return 1 << HEAD | 1 << BODY;
            case 'U': return 1 << MET | 1 << MAIL | 1 << RCPT | 1 << HEAD | 1 << BODY;
            case 'D': return 1 << READY | 1 << MET | 1 << MAIL | 1 << RCPT | 1 << HEAD | 1 << BODY;
            case 'A': case 'K': return 0x1FE & ~(1 << FRESH);
            case 'Q': return 0x1FE;
            default: return 0;
        }
    }

    /** False when the session must close. */
    private boolean carryOut(Session s, int command, int end) {
        switch (command) {
            case 'O': return greet(s, end);
            case 'C': return meet(s, end);
            case 'M': return beginMail(s, end);
            case 'R': return addRecipient(s, end);
            case 'L': return addHeader(s, end);
            case 'D':
                return end > DATA && s.stringsFrom(DATA + 1, end) >= 0 && s.stringsFrom(DATA + 1, end) % 2 == 0;
            case 'H':
                return s.stringsFrom(DATA, end) == 1 && s.answerIn(s.state, 'c');
            case 'U':
                return s.answerIn(s.state, 'c');
            case 'T':
                return end == DATA && s.answerIn(s.state, 'c');
            case 'N':
                return end == DATA && s.answerIn(BODY, 'c');
            case 'B':
                s.mail.addBody(s.packet, DATA, end);
                return s.answerIn(BODY, s.mail.great ? 's' : 'c');
            case 'E':
                s.mail.addBody(s.packet, DATA, end);
                s.state = JUDGING;
                return true;
            case 'A':
                s.mail.drop();
                s.state = s.met ? MET : READY;
                return true;
            case 'K':
                s.mail.drop();
                s.met = false;
                s.addressed = false;
                s.state = READY;
                return true;
            default:
                return false;
        }
    }

    private boolean greet(Session s, int end) {
        if (end != DATA + 12) {
            return false;
        }
        int version = s.numberAt(DATA);
        if (version == 0 || version == 1) {
            return false;
        }
        s.granted = s.numberAt(DATA + 4) & (MARK_GRANT | SUBJECT_GRANT | HOLD_GRANT);
        s.state = READY;
        s.beginReply('O');
        // a version below 0 is one above 2,147,483,647
        s.putNumber(version < 0 || version > 6 ? 6 : version);
        s.putNumber(s.granted);
        s.putNumber(s.numberAt(DATA + 8) & 0x100);
        s.endReply();
        return true;
    }

    private boolean meet(Session s, int end) {
        int family = s.zeroFrom(DATA, end) + 1;
        if (family == 0 || family >= end) {
            return false;
        }
        int sign = s.packet[family];
        boolean numbered = sign == '4';
        if (sign == 'U') {
            if (family + 1 != end) {
                return false;
            }
        } else if (sign == 'L' || sign == '6' || numbered) {
            int from = family + 3;
            if (from > end || s.stringsFrom(from, end) != 1 || numbered && !s.readAddress(from, end - 1)) {
                return false;
            }
        } else {
            return false;
        }
        s.met = true;
        s.addressed = numbered;
        s.answerIn(MET, 'c');
        for (int z = 0; z < loaded.zoneCount && s.addressed; z++) {
            lookups.lookUp(s.address, loaded.zones[z], clock);
        }
        return true;
    }

    private boolean beginMail(Session s, int end) {
        if (s.stringsFrom(DATA, end) < 1) {
            return false;
        }
        int to = s.zeroFrom(DATA, end);
        int cut = s.bracketed(DATA, to) ? 1 : 0;
        s.mail.begin(loaded, s.packet, DATA + cut, to - cut);
        return s.answerIn(MAIL, 'c');
    }

    private boolean addRecipient(Session s, int end) {
        if (s.stringsFrom(DATA, end) < 1) {
            return false;
        }
        int to = s.zeroFrom(DATA, end);
        int cut = s.bracketed(DATA, to) ? 1 : 0;
        boolean later = s.mail.recipients >= MOST_RECIPIENTS || !passesGrey(s, DATA + cut, to - cut);
        if (later) {
            return s.answerIn(s.state, 't');
        }
        s.mail.recipients++;
        return s.answerIn(RCPT, 'c');
    }

    private boolean passesGrey(Session s, int from, int to) {
        int delay = s.mail.rules.grey;
        if (delay <= 0 || !s.addressed) {
            return true;
        }
        long h = DIGEST_START;
        for (int shift = 24; shift > 0; shift -= 8) {
            h = digestStep(h, s.address >>> shift & 255);
        }
        h = digestSmall(h, s.mail.sender, 0, s.mail.senderLength);
        h = digestStep(h, 0);
        h = digestSmall(h, s.packet, from, to);
        return greylist.passes(h, s.address >>> 8, delay, clock);
    }

    private boolean addHeader(Session s, int end) {
        if (s.stringsFrom(DATA, end) != 2) {
            return false;
        }
        int nameTo = s.zeroFrom(DATA, end);
        s.mail.addHeader(s.packet, DATA, nameTo, end - 1);
        return s.answerIn(HEAD, 'c');
    }

    // ---- judging

    /** Whether a message that has just ended can be concluded now; then the letter holds it. */
    private boolean weighs(Session s) {
        if (s.mail.great) {
            s.judged = true;
            s.great = true;
            s.indicator = -1.0;
            Arrays.fill(s.told, 0);
            s.mail.drop();
            s.answerIn(MET, 'a');
            return false;
        }
        letter.takeApart(s.mail);
        s.pending = store.indicatorOf(letter.tokens, letter.tokenCount);
        if (waits(s)) {
            s.state = WAITING;
            return false;
        }
        return true;
    }

    private boolean waits(Session s) {
        RuleSet rules = s.mail.rules;
        boolean open = false;
        for (int z = 0; z < rules.zoneCount && s.addressed; z++) {
            open = open || lookups.isAsked(s.address, rules.zones[z]);
        }
        return open;
    }

    /** Needs the letter to hold the session's message. */
    private void conclude(Session s) {
        RuleSet rules = s.mail.rules;
        s.judged = true;
        s.great = false;
        s.indicator = s.pending;
        int held = 0;
        int heldCount = 0;
        int score = 0;
        countFacts(s.mail);
        for (int k = 0; k < rules.count; k++) {
            int number = rules.sequence[k];
            if (holds(s, rules.rules[number], held)) {
                held |= 1 << number;
                s.heldRules[heldCount] = number;
                heldCount++;
                score += rules.weights[number];
            }
        }
        s.told[Session.SCORE] = score;
        s.told[Session.HELD] = heldCount;
        s.told[Session.PARTS] = letter.partCount;
        s.told[Session.CHARS] = letter.textLength;
        s.told[Session.URIS] = letter.uriCount;
        s.told[Session.TOKENS] = letter.tokenCount;
        System.arraycopy(letter.text, 0, s.chars, 0, letter.textLength);
        System.arraycopy(letter.tokens, 0, s.tokens, 0, letter.tokenCount);
        s.state = MET;
        if (sendVerdict(s, score)) {
            s.mail.drop();
        }
    }

    private void countFacts(Mail mail) {
        int lines = 0;
        int greats = 0;
        for (int i = 0; i < letter.textLength; i++) {
            int c = letter.text[i];
            if (c == 10) {
                lines++;
            } else if (isGreat(c)) {
                greats++;
            }
        }
        facts[0] = letter.partCount;
        facts[1] = letter.textLength;
        facts[2] = lines;
        facts[3] = mail.headerCount;
        facts[4] = mail.recipients;
        facts[5] = letter.uriCount;
        facts[6] = greats;
        facts[7] = mail.bodyLength;
    }

    private boolean holds(Session s, Rule rule, int held) {
        switch (rule.kind) {
            case Rule.HEADER:
                return headerHolds(s.mail, rule);
            case Rule.EXISTS:
                return headerExists(s.mail, rule);
            case Rule.BODY_TEXT:
                return regex.foundIn(rule.code, rule.sets, letter.text, 0, letter.textLength);
            case Rule.RAW:
                return regex.foundIn(rule.code, rule.sets, letter.raw, 0, letter.rawLength);
            case Rule.URI:
                return uriHolds(rule);
            case Rule.ATTACH:
                return letter.hasAttachment(rule);
            case Rule.BAYES:
                double thousandths = s.indicator * 1000.0;
                return thousandths >= rule.low && (thousandths < rule.high || rule.high == 1000 && thousandths <= 1000.0);
            case Rule.LISTED:
                if (!s.addressed || rule.low < 0 || rule.low >= s.mail.rules.zoneCount) {
                    return false;
                }
                return (lookups.bitsOf(s.address, s.mail.rules.zones[rule.low], clock) & rule.high) != 0;
            default:
                return rule.workOut(held, facts, stack) != 0;
        }
    }

    private boolean headerHolds(Mail mail, Rule rule) {
        for (int h = 0; h < mail.headerCount; h++) {
            boolean found = mail.isFieldOf(rule, h)
                && regex.foundIn(rule.code, rule.sets, letter.headerChars, letter.headerStarts[h], letter.headerStarts[h + 1]);
            if (found) {
                return true;
            }
        }
        return false;
    }

    private static boolean headerExists(Mail mail, Rule rule) {
        for (int h = 0; h < mail.headerCount; h++) {
            if (mail.isFieldOf(rule, h)) {
                return true;
            }
        }
        return false;
    }

    private boolean uriHolds(Rule rule) {
        for (int u = 0; u < letter.uriCount; u++) {
            int[] uri = letter.uris[u];
            int[] chars = uri[Letter.URI_ROW] == 0 ? letter.text : letter.raw;
            if (regex.foundIn(rule.code, rule.sets, chars, uri[Letter.URI_FROM], uri[Letter.URI_TO])) {
                return true;
            }
        }
        return false;
    }

    /** False when a reply had no room. */
    private boolean sendVerdict(Session s, int score) {
        int[] limits = s.mail.rules.limits;
        boolean holding = (s.granted & HOLD_GRANT) != 0;
        if (score >= limits[0]) {
            if ((s.granted & MARK_GRANT) != 0 && !sendMark(s, score)) {
                return false;
            }
            int subject = s.mail.headerNamed("subject");
            if ((s.granted & SUBJECT_GRANT) != 0 && subject >= 0 && !sendSubject(s, subject)) {
                return false;
            }
        }
        if (score >= limits[2]) {
            s.beginReply('y');
            s.putText("550 5.7.1 score ");
            s.putScore(score);
            s.putByte(0);
            return s.endReply();
        }
        if (score < limits[1]) {
            s.beginReply('a');
            return s.endReply();
        }
        if (holding) {
            s.beginReply('q');
            s.putText("score ");
            s.putScore(score);
            s.putByte(0);
            if (!s.endReply()) {
                return false;
            }
        }
        s.beginReply(holding ? 'a' : 't');
        return s.endReply();
    }

    private boolean sendMark(Session s, int score) {
        s.beginReply('h');
        s.putText("X-Sieve");
        s.putByte(0);
        s.putScore(score);
        s.putByte(' ');
        for (int k = 0; k < s.told[Session.HELD]; k++) {
            if (k > 0) {
                s.putByte(',');
            }
            Rule rule = s.mail.rules.rules[s.heldRules[k]];
            s.putBytes(rule.source, rule.nameFrom, rule.nameTo);
        }
        s.putByte(0);
        return s.endReply();
    }

    private boolean sendSubject(Session s, int h) {
        Mail mail = s.mail;
        Mime mime = letter.mime;
        mime.unfold(mail.headers, mail.valueFrom(h), mail.valueTo(h));
        s.beginReply('m');
        s.putNumber(1);
        s.putBytes(mail.headers, mail.nameFroms[h], mail.valueFrom(h));
        s.putByte(0);
        s.putText("[SPAM] ");
        s.putBytes(mime.value, 0, mime.valueLength);
        s.putByte(0);
        return s.endReply();
    }

    // ---- signs and digests

    private static boolean isLetter(int c) {
        return c >= 'a' && c <= 'z' || c >= 'A' && c <= 'Z';
    }

    private static boolean isGreat(int c) {
        return c >= 'A' && c <= 'Z';
    }

    private static boolean isDigit(int c) {
        return c >= '0' && c <= '9';
    }

    private static boolean isBlank(int c) {
        return c == ' ' || c == 9;
    }

    private static int small(int c) {
        return c >= 'A' && c <= 'Z' ? c + 32 : c;
    }

    private static int hexOf(int c) {
        if (c >= '0' && c <= '9') {
            return c - '0';
        }
        if (c >= 'a' && c <= 'f') {
            return c - 'a' + 10;
        }
        return c >= 'A' && c <= 'F' ? c - 'A' + 10 : -1;
    }

    /** Whether the bytes from .. to - 1, SMALL, are the word (which is small). */
    private static boolean sameSmall(byte[] bytes, int from, int to, String word) {
        if (from < 0 || to > bytes.length || to - from != word.length()) {
            return false;
        }
        for (int i = from; i < to; i++) {
            int c = bytes[i];
            // small() written out: calls are deep here
            if ((c >= 'A' && c <= 'Z' ? c + 32 : c) != word.charAt(i - from)) {
                return false;
            }
        }
        return true;
    }

    private static long digestStep(long h, int b) {
        return (h ^ b) * 1099511628211L;
    }

    private static long digestSmall(long h, byte[] bytes, int from, int to) {
        long digest = h;
        for (int i = from; i < to && i < bytes.length; i++) {
            digest = digestStep(digest, small(bytes[i] & 255));
        }
        return digest;
    }

    /** A char's bytes of utf-8 go into a digest. */
    private static long digestChar(long h, int c) {
        if (c < 0x80) {
            return digestStep(h, c);
        }
        if (c < 0x800) {
            return digestStep(digestStep(h, 0xC0 | c >> 6), 0x80 | c & 63);
        }
        long digest = h;
        if (c < 0x10000) {
            digest = digestStep(digest, 0xE0 | c >> 12);
        } else {
            digest = digestStep(digest, 0xF0 | c >> 18);
            digest = digestStep(digest, 0x80 | c >> 12 & 63);
        }
        digest = digestStep(digest, 0x80 | c >> 6 & 63);
        return digestStep(digest, 0x80 | c & 63);
    }

    // ---- a session

    /** What a session got, what it answered, and what is told of the message that it judged latest. */
    private static final class Session {
        static final int MOST_OUT = 8192;
        static final int MOST_PACKET = 2048;
        static final int SCORE = 0;
        static final int HELD = 1;
        static final int PARTS = 2;
        static final int CHARS = 3;
        static final int URIS = 4;
        static final int TOKENS = 5;

        int state;
        int granted;
        final byte[] packet = new byte[MOST_PACKET + 4];
        int packetLength;
        final byte[] out = new byte[MOST_OUT];
        int outLength;
        int replyStart;
        boolean replyFits;
        boolean met;
        boolean addressed;
        int address;
        final Mail mail = new Mail();
        double pending;
        boolean judged;
        boolean great;
        final int[] told = new int[6];
        final int[] heldRules = new int[RuleSet.MOST_RULES];
        final int[] chars = new int[Letter.MOST_TEXT];
        final long[] tokens = new long[Letter.MOST_TOKENS];
        double indicator;

        void shut() {
            state = CLOSED;
            granted = 0;
            packetLength = 0;
            met = false;
            addressed = false;
            mail.drop();
        }

        /** True when the packet is whole with this byte. */
        boolean takeByte(byte b) {
            if (packetLength >= packet.length) {
                return false;
            }
            packet[packetLength] = b;
            packetLength++;
            if (packetLength < 4) {
                return false;
            }
            int length = numberAt(0);
            if (length < 1 || length > MOST_PACKET) {
                shut();
                return false;
            }
            return packetLength == length + 4;
        }

        int numberAt(int at) {
            if (at < 0 || at + 4 > packet.length) {
                return 0;
            }
            return (packet[at] & 255) << 24 | (packet[at + 1] & 255) << 16 | (packet[at + 2] & 255) << 8 | packet[at + 3] & 255;
        }

        /** The place of the first 0; -1 when there is none. */
        int zeroFrom(int from, int end) {
            for (int i = from; i < end && i < packet.length; i++) {
                if (packet[i] == 0) {
                    return i;
                }
            }
            return -1;
        }

        /** How many strings there are; -1 when these are not all. */
        int stringsFrom(int from, int end) {
            if (from > end || end > packet.length || from < end && packet[end - 1] != 0) {
                return -1;
            }
            int strings = 0;
            for (int i = from; i < end; i++) {
                if (packet[i] == 0) {
                    strings++;
                }
            }
            return strings;
        }

        boolean bracketed(int from, int to) {
            return to - from >= 2 && to <= packet.length && packet[from] == '<' && packet[to - 1] == '>';
        }

        boolean readAddress(int from, int to) {
            int result = 0;
            int numbers = 0;
            int number = 0;
            int digits = 0;
            for (int i = from; i <= to && i < packet.length; i++) {
                int c = i == to ? '.' : packet[i];
                if (c == '.') {
                    if (digits == 0 || numbers == 4) {
                        return false;
                    }
                    result = result << 8 | number;
                    numbers++;
                    number = 0;
                    digits = 0;
                } else {
                    boolean zeroAhead = digits > 0 && number == 0;
                    if (!isDigit(c) || zeroAhead || number * 10 + c - '0' > 255) {
                        return false;
                    }
                    number = number * 10 + c - '0';
                    digits++;
                }
            }
            address = result;
            return numbers == 4;
        }

        /** Always true; the state comes first because a reply without room closes. */
        boolean answerIn(int next, int letter) {
            state = next;
            beginReply(letter);
            endReply();
            return true;
        }

        void beginReply(int letter) {
            replyStart = outLength;
            replyFits = true;
            putNumber(0);
            putByte(letter);
        }

        void putByte(int b) {
            if (outLength >= MOST_OUT) {
                replyFits = false;
                return;
            }
            out[outLength] = (byte) b;
            outLength++;
        }

        void putNumber(int number) {
            for (int shift = 24; shift >= 0; shift -= 8) {
                putByte(number >> shift);
            }
        }

        void putBytes(byte[] bytes, int from, int to) {
            for (int i = from; i < to && i < bytes.length; i++) {
                putByte(bytes[i]);
            }
        }

        void putText(String text) {
            for (int i = 0; i < text.length(); i++) {
                putByte(text.charAt(i));
            }
        }

        void putScore(int score) {
            if (score < 0) {
                putByte('-');
            }
            int size = score < 0 ? -score : score;
            boolean begun = false;
            for (int unit = 100000000; unit > 0; unit /= 10) {
                int digit = size / unit % 10;
                begun = begun || digit != 0 || unit == 1000;
                if (unit == 100) {
                    putByte('.');
                }
                if (begun) {
                    putByte('0' + digit);
                }
            }
        }

        /** False when it had no room. */
        boolean endReply() {
            if (!replyFits) {
                outLength = replyStart;
                shut();
                return false;
            }
            int length = outLength - replyStart - 4;
            if (replyStart + 4 <= MOST_OUT) {
                out[replyStart] = (byte) (length >> 24);
                out[replyStart + 1] = (byte) (length >> 16);
                out[replyStart + 2] = (byte) (length >> 8);
                out[replyStart + 3] = (byte) length;
            }
            return true;
        }
    }

    /** A message as it came. */
    private static final class Mail {
        static final int MOST_HEADERS = 40;
        static final int MOST_HEADER_BYTES = 4000;
        static final int MOST_BODY = 6000;

        RuleSet rules = new RuleSet();
        final byte[] sender = new byte[Session.MOST_PACKET];
        int senderLength;
        int recipients;
        final byte[] headers = new byte[MOST_HEADER_BYTES];
        int headersLength;
        final int[] nameFroms = new int[MOST_HEADERS];
        final int[] nameLengths = new int[MOST_HEADERS];
        final int[] valueLengths = new int[MOST_HEADERS];
        int headerCount;
        final byte[] body = new byte[MOST_BODY];
        int bodyLength;
        boolean great;

        void drop() {
            senderLength = 0;
            recipients = 0;
            headersLength = 0;
            headerCount = 0;
            bodyLength = 0;
            great = false;
        }

        void begin(RuleSet latest, byte[] packet, int from, int to) {
            drop();
            rules = latest;
            int length = to - from;
            if (length > 0 && length <= sender.length) {
                System.arraycopy(packet, from, sender, 0, length);
                senderLength = length;
            }
        }

        /** The value stands between the name's 0 and the place valueTo. */
        void addHeader(byte[] packet, int nameFrom, int nameTo, int valueTo) {
            int nameLength = nameTo - nameFrom;
            int valueLength = valueTo - nameTo - 1;
            great = great || headerCount >= MOST_HEADERS || headersLength + nameLength + valueLength > MOST_HEADER_BYTES;
            if (great || nameLength < 0 || valueLength < 0) {
                return;
            }
            nameFroms[headerCount] = headersLength;
            nameLengths[headerCount] = nameLength;
            valueLengths[headerCount] = valueLength;
            System.arraycopy(packet, nameFrom, headers, headersLength, nameLength);
            System.arraycopy(packet, nameTo + 1, headers, headersLength + nameLength, valueLength);
            headersLength += nameLength + valueLength;
            headerCount++;
        }

        void addBody(byte[] packet, int from, int to) {
            great = great || bodyLength + to - from > MOST_BODY;
            if (great || to < from) {
                return;
            }
            System.arraycopy(packet, from, body, bodyLength, to - from);
            bodyLength += to - from;
        }

        int valueFrom(int h) {
            return h < 0 || h >= headerCount ? 0 : nameFroms[h] + nameLengths[h];
        }

        int valueTo(int h) {
            return h < 0 || h >= headerCount ? 0 : valueFrom(h) + valueLengths[h];
        }

        /** The first header with this field (small); -1 when there is none. */
        int headerNamed(String field) {
            for (int h = 0; h < headerCount; h++) {
                if (sameSmall(headers, nameFroms[h], nameFroms[h] + nameLengths[h], field)) {
                    return h;
                }
            }
            return -1;
        }

        /** Whether header h has the field that a rule tells. */
        boolean isFieldOf(Rule rule, int h) {
            int length = rule.wordTo - rule.wordFrom;
            if (h < 0 || h >= headerCount || nameLengths[h] != length) {
                return false;
            }
            for (int i = 0; i < length; i++) {
                if (small(headers[nameFroms[h] + i]) != small(rule.source[rule.wordFrom + i])) {
                    return false;
                }
            }
            return true;
        }
    }

    // ---- regular expressions

    /** Makes programs of expressions, and walks over a row of chars with all ways through a program at once. */
    private static final class Regex {
        /** A unit of SIZE needs at most 8 steps (2 of its own, 1 more for each group round it). */
        static final int MOST_STEPS = 8 * 600 + 8;
        static final int MOST_SETS = 1400;
        static final int MOST_SIZE = 600;
        static final int SIZE_CAP = 1000000;
        static final int SET_INTS = 5;

        static final int CHAR = 0;
        static final int SET = 1;
        static final int ANY = 2;
        static final int KIND = 3;
        static final int SPLIT = 4;
        static final int JUMP = 5;
        static final int PLACE = 6;
        static final int MATCH = 7;

        static final int START = 0;
        static final int BRANCH = 1;
        static final int CHAIN = 2;
        static final int TOTAL = 3;
        static final int ROW = 4;
        static final int SETS = 5;
        static final int FULL = 6;

        private byte[] source = new byte[0];
        private int at;
        private int end;
        private int wrong;
        private boolean fold;
        /** Three ints a step; jumps are told from their own step on, so that steps can be moved and doubled. */
        final int[] code = new int[3 * MOST_STEPS];
        int length;
        private boolean full;
        final int[] sets = new int[SET_INTS * MOST_SETS];
        int setCount;
        private final int[][] frames = new int[8][7];
        private int level;
        private int low;
        private int high;
        private final int[] marks = new int[MOST_STEPS];
        private int stamp;
        private final int[] waiting = new int[MOST_STEPS];
        private int waitingCount;
        private final int[] takers = new int[MOST_STEPS];
        private int takerCount;

        /** The place at which the expression is wrong; -1 when it is right (then code and sets are its program). */
        int compile(byte[] bytes, int from, int to, boolean ignoreCase) {
            source = bytes;
            at = from;
            end = Math.min(to, bytes.length);
            wrong = -1;
            fold = ignoreCase;
            length = 0;
            setCount = 0;
            full = false;
            level = 0;
            openFrame();
            for (int left = end - from; left > 0 && at < end && wrong < 0; left--) {
                takeSign(source[at]);
            }
            if (wrong < 0 && level > 0) {
                wrong = end;
            }
            if (wrong < 0 && (closeFrame() > MOST_SIZE || full)) {
                wrong = end;
            }
            emit(MATCH, 0, 0);
            return wrong;
        }

        private void takeSign(int c) {
            if (c == '(') {
                if (level >= 6) {
                    wrong = at;
                    return;
                }
                at++;
                level++;
                openFrame();
            } else if (c == ')') {
                if (level == 0) {
                    wrong = at;
                    return;
                }
                at++;
                int size = closeFrame();
                int[] inner = frames[level];
                level--;
                takeTimes(inner, size);
            } else if (c == '|') {
                at++;
                closeBranch();
            } else {
                // frame 7 is never a group's: groups are at most 6 deep
                int[] single = frames[7];
                single[START] = length;
                single[SETS] = setCount;
                single[FULL] = full ? 1 : 0;
                takeAtom(c);
                takeTimes(single, 1);
            }
        }

        private void openFrame() {
            int[] frame = frames[level];
            frame[START] = length;
            frame[BRANCH] = length;
            frame[CHAIN] = -1;
            frame[TOTAL] = 0;
            frame[ROW] = 0;
            frame[SETS] = setCount;
            frame[FULL] = full ? 1 : 0;
        }

        /** Each branch but the last: a split ahead of it, and a jump behind it that is aimed when the group ends. */
        private void closeBranch() {
            int[] frame = frames[level];
            frame[TOTAL] = Math.min(SIZE_CAP, frame[TOTAL] + Math.max(1, frame[ROW]) + 1);
            frame[ROW] = 0;
            insert(frame[BRANCH], SPLIT, 1, length - frame[BRANCH] + 2);
            emit(JUMP, frame[CHAIN], 0);
            if (!full) {
                frame[CHAIN] = length - 1;
            }
            frame[BRANCH] = length;
        }

        /** Aims the jumps of the branches; the size of them all. */
        private int closeFrame() {
            int[] frame = frames[level];
            int jump = frame[CHAIN];
            for (int guard = 0; guard < MOST_STEPS && jump >= 0 && jump < length; guard++) {
                int before = code[3 * jump + 1];
                code[3 * jump + 1] = length - jump;
                jump = before;
            }
            return Math.min(SIZE_CAP, frame[TOTAL] + Math.max(1, frame[ROW]));
        }

        private void takeAtom(int c) {
            at++;
            if (c == '.') {
                emit(ANY, 0, 0);
            } else if (c == '^' || c == '$') {
                emit(PLACE, c, 0);
            } else if (c == '[') {
                takeClass();
            } else if (c == '\\') {
                takeEscape();
            } else if (isSign(c) && c != ']' && c != '{' && c != '}' && c != '*' && c != '+' && c != '?') {
                emit(CHAR, c, otherCase(c));
            } else {
                wrong = at - 1;
            }
        }

        private static boolean isSign(int c) {
            return c >= 32 && c <= 126 && c != '/';
        }

        private int otherCase(int c) {
            return fold && isLetter(c) ? c ^ 32 : c;
        }

        private static boolean isEscape(int c) {
            switch (c) {
                case 'd': case 'D': case 'w': case 'W': case 's': case 'S': case 'b': case 'B': case 'n': case 't':
                    return true;
                default:
                    return isSign(c) && !isLetter(c) && !isDigit(c);
            }
        }

        private static boolean isKindLetter(int c) {
            return c == 'd' || c == 'D' || c == 'w' || c == 'W' || c == 's' || c == 'S';
        }

        private void takeEscape() {
            int c = at < end ? source[at] : -1;
            if (!isEscape(c)) {
                wrong = at;
                return;
            }
            at++;
            if (isKindLetter(c)) {
                emit(KIND, c, 0);
            } else if (c == 'b' || c == 'B') {
                emit(PLACE, c, 0);
            } else {
                int sign = c == 'n' ? 10 : c == 't' ? 9 : c;
                emit(CHAR, sign, sign);
            }
        }

        private static boolean isClassChar(int c) {
            return isSign(c) && c != ']' && c != '[' && c != '\\' && c != '^' && c != '-';
        }

        private void takeClass() {
            if (setCount >= MOST_SETS) {
                full = true;
                setCount = 0;
            }
            int set = SET_INTS * setCount;
            setCount++;
            Arrays.fill(sets, set, set + SET_INTS, 0);
            boolean negated = at < end && source[at] == '^';
            if (negated) {
                at++;
            }
            int first = at;
            for (int left = end - at; left > 0 && at < end && wrong < 0; left--) {
                if (source[at] == ']' && at > first) {
                    at++;
                    finishSet(set, negated);
                    emit(SET, set, 0);
                    return;
                }
                takeItem(set);
            }
            if (wrong < 0) {
                wrong = end;
            }
        }

        private void takeItem(int set) {
            int c = source[at];
            if (c == '\\') {
                at++;
                int escape = at < end ? source[at] : -1;
                if (!isEscape(escape) || escape == 'b' || escape == 'B') {
                    wrong = at;
                    return;
                }
                addEscape(set, escape);
            } else if (!isClassChar(c)) {
                wrong = at;
                return;
            } else if (at + 1 < end && source[at + 1] == '-') {
                at += 2;
                int last = at < end ? source[at] : -1;
                if (!isClassChar(last) || last < c) {
                    wrong = at;
                    return;
                }
                addRange(set, c, last);
            } else {
                addRange(set, c, c);
            }
            at++;
        }

        private void addRange(int set, int from, int to) {
            for (int c = from; c <= to && c < 128; c++) {
                sets[set + (c >> 5)] |= 1 << (c & 31);
            }
        }

        private void addEscape(int set, int escape) {
            if (!isKindLetter(escape)) {
                int sign = escape == 'n' ? 10 : escape == 't' ? 9 : escape;
                addRange(set, sign, sign);
                return;
            }
            for (int c = 0; c < 128; c++) {
                if (isOfKind(escape, c)) {
                    sets[set + (c >> 5)] |= 1 << (c & 31);
                }
            }
            if (isGreat(escape)) {
                sets[set + 4] = 1;
            }
        }

        /** With the flag both cases of a letter are in the set when one is; that comes before the ^. */
        private void finishSet(int set, boolean negated) {
            if (fold) {
                // A to Z are bits 1 to 26 of the third int, a to z those of the fourth
                int both = (sets[set + 2] | sets[set + 3]) & 0x7FFFFFE;
                sets[set + 2] |= both;
                sets[set + 3] |= both;
            }
            for (int i = 0; i < 4 && negated; i++) {
                sets[set + i] = ~sets[set + i];
            }
            if (negated) {
                sets[set + 4] = 1 - sets[set + 4];
            }
        }

        /** What stands behind an atom: how often it comes. */
        private void takeTimes(int[] piece, int atomSize) {
            if (wrong >= 0) {
                return;
            }
            int start = piece[START];
            int unit = length - start;
            int size = atomSize;
            int c = at < end ? source[at] : -1;
            if (c == '*') {
                at++;
                repeatFreely(start, unit);
                size++;
            } else if (c == '+') {
                at++;
                emit(SPLIT, -unit, 1);
                size++;
            } else if (c == '?') {
                at++;
                insert(start, SPLIT, 1, unit + 1);
                size++;
            } else if (c == '{') {
                at++;
                readTimes();
                if (wrong >= 0) {
                    return;
                }
                size = high < 0 ? low * atomSize + atomSize + 1 : high * atomSize;
                if (high == 0) {
                    // nothing is left of it, so what it would have needed does not count
                    length = start;
                    setCount = piece[SETS];
                    full = piece[FULL] != 0;
                } else {
                    repeatCounted(start, unit);
                }
            }
            int[] frame = frames[level];
            frame[ROW] = Math.min(SIZE_CAP, frame[ROW] + Math.max(1, size));
        }

        private void repeatFreely(int start, int unit) {
            insert(start, SPLIT, 1, unit + 2);
            emit(JUMP, -unit - 1, 0);
        }

        /** Reads low and high (-1: no bound) and the } behind them. */
        private void readTimes() {
            low = readNumber();
            high = low;
            if (wrong < 0 && at < end && source[at] == ',') {
                at++;
                high = at < end && source[at] == '}' ? -1 : readNumber();
            }
            if (wrong >= 0) {
                return;
            }
            if (at >= end || source[at] != '}' || high >= 0 && high < low) {
                wrong = at;
                return;
            }
            at++;
        }

        private int readNumber() {
            if (at >= end || !isDigit(source[at])) {
                wrong = at;
                return 0;
            }
            int number = source[at] - '0';
            at++;
            if (at < end && isDigit(source[at])) {
                number = number * 10 + source[at] - '0';
                if (number > 20) {
                    wrong = at;
                }
                at++;
            }
            return number;
        }

        private void repeatCounted(int start, int unit) {
            if (low == 0 && high < 0) {
                repeatFreely(start, unit);
                return;
            }
            int model = start;
            if (low == 0) {
                insert(start, SPLIT, 1, unit + 1);
                model = start + 1;
            }
            for (int k = 1; k < low; k++) {
                emitCopy(model, unit);
            }
            for (int k = Math.max(1, low); k < high; k++) {
                emit(SPLIT, 1, unit + 1);
                emitCopy(model, unit);
            }
            if (high < 0) {
                emit(SPLIT, 1, unit + 2);
                emitCopy(model, unit);
                emit(JUMP, -unit - 1, 0);
            }
        }

        private void emit(int what, int x, int y) {
            if (length >= MOST_STEPS) {
                full = true;
            }
            if (full) {
                return;
            }
            code[3 * length] = what;
            code[3 * length + 1] = x;
            code[3 * length + 2] = y;
            length++;
        }

        private void emitCopy(int from, int steps) {
            for (int i = from; i < from + steps && i < length && !full; i++) {
                emit(code[3 * i], code[3 * i + 1], code[3 * i + 2]);
            }
        }

        private void insert(int place, int what, int x, int y) {
            emit(what, x, y);
            if (full || place < 0 || place >= length) {
                return;
            }
            System.arraycopy(code, 3 * place, code, 3 * place + 3, 3 * (length - 1 - place));
            code[3 * place] = what;
            code[3 * place + 1] = x;
            code[3 * place + 2] = y;
        }

        /** Whether a program stands for some chars of the row's places from .. to. */
        boolean foundIn(int[] program, int[] classes, int[] row, int from, int to) {
            if (from < 0 || to > row.length) {
                return false;
            }
            waitingCount = 0;
            stamp++;
            for (int place = from; place <= to; place++) {
                reach(0);
                if (spread(program, row, place, from, to)) {
                    return true;
                }
                stamp++;
                for (int i = 0; i < takerCount && place < to; i++) {
                    if (takes(program, classes, takers[i], row[place])) {
                        reach(takers[i] + 1);
                    }
                }
            }
            return false;
        }

        /** A step is reached once at a place. */
        private void reach(int step) {
            if (step >= 0 && step < MOST_STEPS && marks[step] != stamp) {
                marks[step] = stamp;
                waiting[waitingCount] = step;
                waitingCount++;
            }
        }

        /** Follows the steps that take no char; true when the end of the program is reached. */
        private boolean spread(int[] program, int[] row, int place, int from, int to) {
            takerCount = 0;
            for (int guard = 0; guard < MOST_STEPS && waitingCount > 0; guard++) {
                waitingCount--;
                int step = waiting[waitingCount];
                int base = 3 * step;
                if (base + 2 >= program.length) {
                    continue;
                }
                switch (program[base]) {
                    case MATCH:
                        return true;
                    case JUMP:
                        reach(step + program[base + 1]);
                        break;
                    case SPLIT:
                        reach(step + program[base + 1]);
                        reach(step + program[base + 2]);
                        break;
                    case PLACE:
                        if (holdsAt(program[base + 1], row, place, from, to)) {
                            reach(step + 1);
                        }
                        break;
                    default:
                        takers[takerCount] = step;
                        takerCount++;
                        break;
                }
            }
            return false;
        }

        private static boolean holdsAt(int sign, int[] row, int place, int from, int to) {
            int before = place > from ? row[place - 1] : -1;
            int behind = place < to ? row[place] : -1;
            switch (sign) {
                case '^': return place == from || before == 10;
                case '$': return place == to || behind == 10;
                case 'b': return isOfKind('w', before) != isOfKind('w', behind);
                default: return isOfKind('w', before) == isOfKind('w', behind);
            }
        }

        private static boolean takes(int[] program, int[] classes, int step, int c) {
            int base = 3 * step;
            if (base < 0 || base + 2 >= program.length) {
                return false;
            }
            int x = program[base + 1];
            switch (program[base]) {
                case CHAR:
                    return c == x || c == program[base + 2];
                case ANY:
                    return c != 10;
                case KIND:
                    return isOfKind(x, c);
                default:
                    if (c < 0 || x < 0 || x + SET_INTS > classes.length) {
                        return false;
                    }
                    return c < 128 ? (classes[x + (c >> 5)] >> (c & 31) & 1) != 0 : classes[x + 4] != 0;
            }
        }

        private static boolean isOfKind(int letter, int c) {
            boolean digit = c >= '0' && c <= '9';
            boolean word = digit || c == '_' || c >= 'a' && c <= 'z' || c >= 'A' && c <= 'Z';
            boolean space = c == 32 || c >= 9 && c <= 13;
            switch (letter) {
                case 'd': return digit;
                case 'D': return !digit;
                case 'w': return word;
                case 'W': return !word;
                case 's': return space;
                default: return !space;
            }
        }
    }

    // ---- rules

    /** A rule as its line told it; weights and priorities are the rule set's. */
    private static final class Rule {
        static final int HEADER = 1;
        static final int EXISTS = 2;
        static final int BODY_TEXT = 3;
        static final int RAW = 4;
        static final int URI = 5;
        static final int ATTACH = 6;
        static final int BAYES = 7;
        static final int LISTED = 8;
        static final int META = 9;
        static final int COUNT = 10;

        static final int NUMBER = 0;
        static final int NAME = 1;
        static final int FACT = 2;
        static final int NOT = 3;
        static final int ADD = 4;
        static final int TAKE = 5;
        static final int TIMES = 6;
        static final int LESS = 7;
        static final int MORE = 8;
        static final int EQUAL = 9;
        static final int AND = 10;
        static final int OR = 11;

        static final int MOST_STACK = 64;

        final int kind;
        final byte[] source;
        final int nameFrom;
        final int nameTo;
        int wordFrom;
        int wordTo;
        int low;
        int high;
        /** Of an expression its program; of meta and count three ints a step: what, a number or place, a rule's number. */
        int[] code = new int[0];
        int[] sets = new int[0];

        Rule(int kind, byte[] source, int nameFrom, int nameTo) {
            this.kind = kind;
            this.source = source;
            this.nameFrom = nameFrom;
            this.nameTo = nameTo;
        }

        boolean isNamed(byte[] bytes, int from, int to) {
            if (to - from != nameTo - nameFrom) {
                return false;
            }
            for (int i = from; i < to; i++) {
                if (bytes[i] != source[nameFrom + i - from]) {
                    return false;
                }
            }
            return true;
        }

        /** What a meta or count gives; held has a bit for each rule that holds. */
        int workOut(int held, int[] facts, int[] stack) {
            int top = 0;
            for (int i = 0; i + 2 < code.length; i += 3) {
                int what = code[i];
                if (what <= FACT) {
                    if (top < stack.length) {
                        stack[top] = valueOf(what, code[i + 1], held, code[i + 2], facts);
                        top++;
                    }
                } else if (what == NOT) {
                    if (top > 0) {
                        stack[top - 1] = stack[top - 1] == 0 ? 1 : 0;
                    }
                } else if (top > 1) {
                    top--;
                    stack[top - 1] = joined(what, stack[top - 1], stack[top]);
                }
            }
            return top > 0 ? stack[0] : 0;
        }

        private static int valueOf(int what, int number, int held, int rule, int[] facts) {
            switch (what) {
                case NUMBER: return number;
                case NAME: return held >> rule & 1;
                default: return number >= 0 && number < facts.length ? facts[number] : 0;
            }
        }

        private static int joined(int what, int a, int b) {
            switch (what) {
                case ADD: return a + b;
                case TAKE: return a - b;
                case TIMES: return a * b;
                case LESS: return a < b ? 1 : 0;
                case MORE: return a > b ? 1 : 0;
                case EQUAL: return a == b ? 1 : 0;
                case AND: return a != 0 && b != 0 ? 1 : 0;
                default: return a != 0 || b != 0 ? 1 : 0;
            }
        }
    }

    private static final class RuleSet {
        static final int MOST_RULES = 24;
        static final int MOST_ZONES = 3;

        final Rule[] rules = new Rule[MOST_RULES];
        final int[] weights = new int[MOST_RULES];
        final int[] priorities = new int[MOST_RULES];
        final int[] sequence = new int[MOST_RULES];
        /** A bit for each rule that a meta names, as firstBad() saw it. */
        private final int[] needs = new int[MOST_RULES];
        int count;
        final byte[][] zones = new byte[MOST_ZONES][0];
        int zoneCount;
        final int[] limits = {5000, 8000, 15000};
        int grey;

        RuleSet() {
        }

        RuleSet(RuleSet model) {
            for (int i = 0; i < model.count; i++) {
                rules[i] = model.rules[i];
                weights[i] = model.weights[i];
                priorities[i] = model.priorities[i];
                needs[i] = model.needs[i];
            }
            count = model.count;
            for (int i = 0; i < model.zoneCount; i++) {
                zones[i] = model.zones[i];
            }
            zoneCount = model.zoneCount;
            for (int i = 0; i < 3; i++) {
                limits[i] = model.limits[i];
            }
            grey = model.grey;
        }

        void reset() {
            count = 0;
            zoneCount = 0;
            limits[0] = 5000;
            limits[1] = 8000;
            limits[2] = 15000;
            grey = 0;
        }

        /** The number of the rule with this name; -1 when there is none. */
        int numberOf(byte[] bytes, int from, int to) {
            for (int i = 0; i < count; i++) {
                if (rules[i].isNamed(bytes, from, to)) {
                    return i;
                }
            }
            return -1;
        }

        void add(Rule rule) {
            if (count < MOST_RULES) {
                rules[count] = rule;
                weights[count] = 1000;
                priorities[count] = 0;
                count++;
            }
        }

        boolean limitsRise() {
            return limits[0] <= limits[1] && limits[1] <= limits[2];
        }

        /**
         * The first rule with which the set can't be loaded; -1 when there is none. Names become numbers here: a rule
         * stays at its number as long as its draft lasts, so sets that were loaded earlier may share it.
         */
        int firstBad() {
            int[] reached = new int[MOST_RULES];
            for (int i = 0; i < count; i++) {
                needs[i] = resolve(rules[i]);
                reached[i] = needs[i];
            }
            for (int through = 0; through < count; through++) {
                for (int i = 0; i < count; i++) {
                    if ((reached[i] >> through & 1) != 0) {
                        reached[i] |= reached[through];
                    }
                }
            }
            for (int i = 0; i < count; i++) {
                if ((reached[i] >> i & 1) != 0 || lacksRule(rules[i]) || lacksZone(rules[i])) {
                    return i;
                }
            }
            return -1;
        }

        private int resolve(Rule rule) {
            int named = 0;
            for (int i = 0; i + 2 < rule.code.length && rule.kind == Rule.META; i += 3) {
                if (rule.code[i] == Rule.NAME) {
                    int from = rule.code[i + 1] >> 5;
                    int number = numberOf(rule.source, from, from + (rule.code[i + 1] & 31));
                    rule.code[i + 2] = number;
                    named |= number < 0 ? 0 : 1 << number;
                }
            }
            return named;
        }

        private boolean lacksZone(Rule rule) {
            return rule.kind == Rule.LISTED && rule.low >= zoneCount;
        }

        private static boolean lacksRule(Rule rule) {
            for (int i = 0; i + 2 < rule.code.length && rule.kind == Rule.META; i += 3) {
                if (rule.code[i] == Rule.NAME && rule.code[i + 2] < 0) {
                    return true;
                }
            }
            return false;
        }

        /** Finds the ORDER of a set that has no bad rule. */
        void arrange() {
            int taken = 0;
            for (int k = 0; k < count; k++) {
                int best = -1;
                for (int i = 0; i < count; i++) {
                    boolean free = (taken >> i & 1) == 0 && (needs[i] & ~taken) == 0;
                    if (free && (best < 0 || priorities[i] < priorities[best])) {
                        best = i;
                    }
                }
                if (best >= 0) {
                    sequence[k] = best;
                    taken |= 1 << best;
                }
            }
        }
    }

    /** Reads the lines that are told into a draft. */
    private static final class LineReader {
        static final String WORDS = "clear header exists body raw uri attach bayes listed meta count score priority zone grey limits ";
        static final String FACTS = "parts chars lines heads rcpts uris caps size ";
        static final int CLEAR = 0;
        static final int SCORE = 11;
        static final int PRIORITY = 12;
        static final int ZONE = 13;
        static final int GREY = 14;
        static final int LIMITS = 15;
        static final int MOST_STEPS = MOST_TAPE;
        static final int MOST_ROW = 12;
        static final int MOST_NESTED = 10;
        static final int MOST_WEIGHT = 999999;

        private byte[] source = new byte[0];
        private int at;
        private int end;
        private int wrong;
        private int kind;
        private int nameFrom;
        private int nameTo;
        private int wordFrom;
        private int wordTo;
        private int first;
        private int second;
        private int third;
        private final int[] steps = new int[3 * MOST_STEPS];
        private int stepCount;
        /** The regular expression that the line's owner is to compile; from is -1 when there is none. */
        int wantedFrom;
        int wantedTo;
        boolean wantedFlag;

        /** Reads a line, but for a regular expression in it. */
        void read(byte[] line, int length) {
            source = line;
            at = 0;
            end = Math.min(length, line.length);
            wrong = -1;
            wantedFrom = -1;
            kind = takeOneOf(WORDS);
            if (kind != CLEAR) {
                takeBlank();
            }
            if (kind >= Rule.HEADER && kind <= PRIORITY) {
                nameFrom = at;
                takeName();
                nameTo = at;
                takeBlank();
            }
            if (wrong < 0) {
                takeRest();
            }
        }

        boolean expects() {
            return wrong < 0 && wantedFrom >= 0;
        }

        /** Tells the place at which the expression is wrong, or -1. */
        void endExpression(int wrongPlace) {
            wrong = wrongPlace;
            if (wrong < 0 && wantedTo >= end) {
                wrong = end;
            }
            at = wantedTo + (wantedFlag ? 2 : 1);
        }

        /** 0 it is done; 1 more than the place at which it is wrong; -2 it is refused. */
        int carryOut(RuleSet draft, Regex regex) {
            if (wrong < 0 && at < end) {
                wrong = at;
            }
            if (wrong >= 0) {
                return wrong + 1;
            }
            return kind >= Rule.HEADER && kind <= Rule.COUNT ? addRule(draft, regex) : change(draft);
        }

        private void takeRest() {
            switch (kind) {
                case Rule.HEADER:
                    takeWord(true, 24);
                    takeBlank();
                    takeExpression();
                    break;
                case Rule.EXISTS:
                    takeWord(true, 24);
                    break;
                case Rule.BODY_TEXT: case Rule.RAW: case Rule.URI:
                    takeExpression();
                    break;
                case Rule.ATTACH:
                    takeWord(false, 8);
                    break;
                case Rule.BAYES: case Rule.LISTED:
                    first = takeNumber();
                    takeBlank();
                    second = takeNumber();
                    break;
                case Rule.META:
                    stepCount = 0;
                    takeLevel(0, 0);
                    break;
                case Rule.COUNT:
                    takeProgram();
                    break;
                case SCORE:
                    first = takeWeight(true);
                    break;
                case PRIORITY:
                    first = takeWeight(false);
                    break;
                case ZONE:
                    takeZone();
                    break;
                case GREY:
                    first = takeNumber();
                    break;
                case LIMITS:
                    first = takeWeight(true);
                    takeBlank();
                    second = takeWeight(true);
                    takeBlank();
                    third = takeWeight(true);
                    break;
                default:
                    break;
            }
        }

        private int addRule(RuleSet draft, Regex regex) {
            boolean refused = draft.count >= RuleSet.MOST_RULES || draft.numberOf(source, nameFrom, nameTo) >= 0;
            if (kind == Rule.BAYES) {
                refused = refused || first >= second || second > 1000;
            } else if (kind == Rule.LISTED) {
                refused = refused || first > 2 || second < 1 || second > 255;
            }
            if (refused) {
                return -2;
            }
            Rule rule = new Rule(kind, Arrays.copyOf(source, end), nameFrom, nameTo);
            if (kind == Rule.META || kind == Rule.COUNT) {
                rule.code = Arrays.copyOf(steps, 3 * stepCount);
            } else if (kind == Rule.HEADER || kind == Rule.BODY_TEXT || kind == Rule.RAW || kind == Rule.URI) {
                rule.code = Arrays.copyOf(regex.code, 3 * regex.length);
                rule.sets = Arrays.copyOf(regex.sets, Regex.SET_INTS * regex.setCount);
            }
            if (kind == Rule.HEADER || kind == Rule.EXISTS || kind == Rule.ATTACH) {
                rule.wordFrom = wordFrom;
                rule.wordTo = wordTo;
            }
            if (kind == Rule.BAYES || kind == Rule.LISTED) {
                rule.low = first;
                rule.high = second;
            }
            draft.add(rule);
            return 0;
        }

        private int change(RuleSet draft) {
            if (kind == CLEAR) {
                draft.reset();
            } else if (kind == ZONE) {
                if (draft.zoneCount >= RuleSet.MOST_ZONES) {
                    return -2;
                }
                draft.zones[draft.zoneCount] = Arrays.copyOfRange(source, wordFrom, wordTo);
                draft.zoneCount++;
            } else if (kind == GREY) {
                if (first > 3600) {
                    return -2;
                }
                draft.grey = first;
            } else if (kind == LIMITS) {
                if (isTooHeavy(first) || isTooHeavy(second) || isTooHeavy(third)) {
                    return -2;
                }
                draft.limits[0] = first;
                draft.limits[1] = second;
                draft.limits[2] = third;
            } else {
                return weigh(draft);
            }
            return 0;
        }

        private int weigh(RuleSet draft) {
            int number = draft.numberOf(source, nameFrom, nameTo);
            if (number < 0) {
                return -2;
            }
            if (kind == SCORE) {
                if (isTooHeavy(first)) {
                    return -2;
                }
                draft.weights[number] = first;
            } else {
                if (first > 99 || first < -99) {
                    return -2;
                }
                draft.priorities[number] = first;
            }
            return 0;
        }

        private static boolean isTooHeavy(int weight) {
            return weight > MOST_WEIGHT || weight < -MOST_WEIGHT;
        }

        // what takes signs does nothing once the line is wrong

        private int signHere() {
            return at < end ? source[at] : -1;
        }

        private void takeBlank() {
            if (wrong < 0) {
                takeSign(' ');
            }
        }

        private void takeSign(int sign) {
            if (signHere() == sign) {
                at++;
            } else {
                wrong = at;
            }
        }

        /** The number of the word that stands here (words with a blank behind each); -1 when it is wrong. */
        private int takeOneOf(String words) {
            int best = 0;
            int number = 0;
            int matched = 0;
            int offset = 0;
            for (int i = 0; i < words.length(); i++) {
                if (words.charAt(i) != ' ') {
                    boolean same = matched == offset && at + offset < end && source[at + offset] == words.charAt(i);
                    matched += same ? 1 : 0;
                    offset++;
                    continue;
                }
                if (matched == offset) {
                    at += offset;
                    return number;
                }
                best = Math.max(best, matched);
                number++;
                matched = 0;
                offset = 0;
            }
            wrong = at + best;
            return -1;
        }

        private void takeName() {
            if (wrong >= 0) {
                return;
            }
            int from = at;
            for (int left = end - at; left > 0 && isNameSign(source[at], at == from); left--) {
                if (at - from >= 16) {
                    wrong = at;
                    return;
                }
                at++;
            }
            if (at == from) {
                wrong = at;
            }
        }

        private static boolean isNameSign(int c, boolean atFirst) {
            return isGreat(c) || !atFirst && (isDigit(c) || c == '_');
        }

        /** A field (letters and -) or a word (letters and digits). */
        private void takeWord(boolean field, int most) {
            if (wrong >= 0) {
                return;
            }
            wordFrom = at;
            for (int left = end - at; left > 0 && isWordSign(source[at], field); left--) {
                if (at - wordFrom >= most) {
                    wrong = at;
                    return;
                }
                at++;
            }
            wordTo = at;
            if (wordTo == wordFrom) {
                wrong = at;
            }
        }

        private static boolean isWordSign(int c, boolean field) {
            return isLetter(c) || (field ? c == '-' : isDigit(c));
        }

        private void takeExpression() {
            if (wrong >= 0) {
                return;
            }
            if (signHere() != '/') {
                wrong = at;
                return;
            }
            wantedFrom = at + 1;
            wantedTo = wantedFrom;
            while (wantedTo < end && source[wantedTo] != '/') {
                wantedTo++;
            }
            wantedFlag = wantedTo + 1 < end && source[wantedTo + 1] == 'i';
        }

        private int takeNumber() {
            return takeDigits(4);
        }

        private int takeDigits(int most) {
            int number = 0;
            if (wrong >= 0) {
                return number;
            }
            int from = at;
            while (at < end && at - from < most && isDigit(source[at])) {
                number = number * 10 + source[at] - '0';
                at++;
            }
            if (at == from) {
                wrong = at;
            }
            return number;
        }

        /** Perhaps -, and a number; in thousandths also what is behind a point. */
        private int takeWeight(boolean thousandths) {
            if (wrong >= 0) {
                return 0;
            }
            boolean negative = signHere() == '-';
            at += negative ? 1 : 0;
            int number = takeNumber();
            if (thousandths) {
                number *= 1000;
                if (wrong < 0 && signHere() == '.') {
                    at++;
                    int from = at;
                    int digits = takeDigits(3);
                    for (int i = at - from; i < 3; i++) {
                        digits *= 10;
                    }
                    number += digits;
                }
            }
            return negative ? -number : number;
        }

        private void takeZone() {
            if (wrong >= 0) {
                return;
            }
            wordFrom = at;
            int label = 0;
            for (int left = end - at; left > 0; left--) {
                int c = source[at];
                boolean point = c == '.' && label > 0;
                boolean sign = (c >= 'a' && c <= 'z' || isDigit(c) || c == '-') && label < 20;
                if (at - wordFrom >= 40 || !point && !sign) {
                    wrong = at;
                    return;
                }
                label = point ? 0 : label + 1;
                at++;
            }
            wordTo = at;
            if (label == 0) {
                wrong = end;
            }
        }

        private void addStep(int what, int number) {
            if (stepCount < MOST_STEPS) {
                steps[3 * stepCount] = what;
                steps[3 * stepCount + 1] = number;
                steps[3 * stepCount + 2] = -1;
                stepCount++;
            }
        }

        /** Levels: 0 or, 1 and, 2 compare, 3 sum, 4 one; nested counts the ! and ( round it. */
        private void takeLevel(int level, int nested) {
            if (level > 3) {
                takeOne(nested);
                return;
            }
            takeLevel(level + 1, nested);
            for (int left = end - at; left > 0 && wrong < 0; left--) {
                int what = operatorOf(level, signHere());
                if (what < 0) {
                    return;
                }
                boolean isDouble = what == Rule.OR || what == Rule.AND || what == Rule.EQUAL;
                int sign = signHere();
                at++;
                if (isDouble) {
                    takeSign(sign);
                }
                if (wrong < 0) {
                    takeLevel(level + 1, nested);
                }
                addStep(what, 0);
                if (level == 2) {
                    return;
                }
            }
        }

        private static int operatorOf(int level, int sign) {
            switch (sign) {
                case '|': return level == 0 ? Rule.OR : -1;
                case '&': return level == 1 ? Rule.AND : -1;
                case '<': return level == 2 ? Rule.LESS : -1;
                case '>': return level == 2 ? Rule.MORE : -1;
                case '=': return level == 2 ? Rule.EQUAL : -1;
                case '+': return level == 3 ? Rule.ADD : -1;
                case '-': return level == 3 ? Rule.TAKE : -1;
                default: return -1;
            }
        }

        private void takeOne(int nested) {
            int c = signHere();
            if (c == '!' || c == '(') {
                if (nested >= MOST_NESTED) {
                    wrong = at;
                    return;
                }
                at++;
                if (c == '!') {
                    takeLevel(4, nested + 1);
                    addStep(Rule.NOT, 0);
                    return;
                }
                takeLevel(0, nested + 1);
                if (wrong < 0) {
                    takeSign(')');
                }
            } else if (isDigit(c)) {
                addStep(Rule.NUMBER, takeNumber());
            } else {
                int from = at;
                takeName();
                addStep(Rule.NAME, from << 5 | at - from);
            }
        }

        private void takeProgram() {
            if (wrong >= 0) {
                return;
            }
            stepCount = 0;
            int row = takeProgramWord(0);
            for (int left = end - at; left > 0 && wrong < 0 && at < end; left--) {
                takeBlank();
                if (wrong < 0) {
                    row = takeProgramWord(row);
                }
            }
            if (wrong < 0 && row != 1) {
                wrong = end;
            }
        }

        /** How many are on the row behind the word. */
        private int takeProgramWord(int row) {
            int c = signHere();
            int what = programOperator(c);
            if (what >= 0) {
                int needed = what == Rule.NOT ? 1 : 2;
                if (row < needed) {
                    wrong = at;
                    return row;
                }
                at++;
                addStep(what, 0);
                return row - needed + 1;
            }
            if (row >= MOST_ROW) {
                wrong = at;
            } else if (isDigit(c)) {
                addStep(Rule.NUMBER, takeNumber());
            } else {
                addStep(Rule.FACT, takeOneOf(FACTS));
            }
            return row + 1;
        }

        private static int programOperator(int c) {
            switch (c) {
                case '+': return Rule.ADD;
                case '-': return Rule.TAKE;
                case '*': return Rule.TIMES;
                case '<': return Rule.LESS;
                case '=': return Rule.EQUAL;
                case '&': return Rule.AND;
                case '|': return Rule.OR;
                case '!': return Rule.NOT;
                default: return -1;
            }
        }
    }

    // ---- taking messages apart

    /** The codings of values and bodies, and what a content-type tells. */
    private static final class Mime {
        static final int PLAIN = 0;
        static final int HTML = 1;
        static final int MULTIPART = 2;
        static final int OTHER = 3;
        static final int UNTOLD = -1;
        static final int LATIN = 0;
        static final int ASCII = 1;
        static final int UTF8 = 2;
        static final int AS_IS = 0;
        static final int BASE64 = 1;
        static final int QUOTED = 2;
        static final int MOST_BOUNDARY = 70;
        /** A rule looks at no more of a name than a point and 8 signs at its end. */
        static final int MOST_TAIL = 9;
        static final int NO_CHAR = 65533;

        final byte[] value = new byte[Mail.MOST_BODY];
        int valueLength;
        final byte[] coded = new byte[Mail.MOST_BODY];
        private int codedLength;
        int kind;
        int charset;
        final byte[] boundary = new byte[MOST_BOUNDARY];
        int boundaryLength;
        final byte[] tail = new byte[MOST_TAIL];
        int tailLength;
        private int nameFrom;
        private int nameTo;
        private int wordFrom;
        private int wordTo;
        private int wordCharset;
        private boolean wordQuoted;

        // -- values

        /** The unfolded bytes become the value (they may be the value's own, further behind). */
        void unfold(byte[] bytes, int from, int to) {
            int length = 0;
            for (int i = from; i < to && i < bytes.length && length < value.length; i++) {
                int c = bytes[i];
                boolean leading = length == 0 && isBlank(c);
                if (c != 13 && c != 10 && !leading) {
                    value[length] = bytes[i];
                    length++;
                }
            }
            while (length > 0 && isBlank(value[length - 1])) {
                length--;
            }
            valueLength = length;
        }

        /** Looks for a field (small) in a part's lines from .. to, of which none is empty; if it is there, it is the value. */
        boolean findField(byte[] body, int from, int to, String field) {
            int length = 0;
            for (int i = from; i < to && i < body.length; i++) {
                int stop = lineStop(body, i, to);
                boolean goesOn = i > from && isBlank(body[i]);
                if (!goesOn) {
                    if (isField(length, field)) {
                        return true;
                    }
                    length = 0;
                }
                int rest = contentStop(body, i, stop, to) - i;
                if (rest > 0 && length + rest <= value.length) {
                    System.arraycopy(body, i, value, length, rest);
                    length += rest;
                }
                i = stop;
            }
            return isField(length, field);
        }

        /** Whether the value's first bytes are a line of this field; then the value becomes the field's. */
        private boolean isField(int length, String field) {
            int colon = 0;
            while (colon < length && value[colon] != ':') {
                colon++;
            }
            if (colon == 0 || colon >= length) {
                return false;
            }
            int stop = colon;
            while (stop > 0 && isBlank(value[stop - 1])) {
                stop--;
            }
            if (!sameSmall(value, 0, stop, field)) {
                return false;
            }
            unfold(value, colon + 1, length);
            return true;
        }

        /** The place of the line's 10, or to. */
        static int lineStop(byte[] bytes, int from, int to) {
            int stop = from;
            while (stop < to && bytes[stop] != 10) {
                stop++;
            }
            return stop;
        }

        /** Where the line that stops there has its last byte but for its end. */
        static int contentStop(byte[] bytes, int from, int stop, int to) {
            return stop < to && stop > from && bytes[stop - 1] == 13 ? stop - 1 : stop;
        }

        // -- content-type

        /** Reads the value as a content-type. */
        void readType(boolean told) {
            kind = PLAIN;
            charset = UNTOLD;
            boundaryLength = UNTOLD;
            tailLength = UNTOLD;
            if (told) {
                int slash = tokenStop(0);
                int stop = tokenStop(slash + 1);
                if (slash > 0 && slash < valueLength && value[slash] == '/' && stop > slash + 1) {
                    kind = kindOf(slash, stop);
                    for (int left = valueLength; left > 0 && stop > 0; left--) {
                        stop = takeParameter(stop);
                        if (stop > 0) {
                            keepParameter();
                        }
                    }
                }
            }
            if (charset == UNTOLD) {
                charset = ASCII;
            }
        }

        private int kindOf(int slash, int stop) {
            if (sameSmall(value, 0, slash, "multipart")) {
                return MULTIPART;
            }
            if (!sameSmall(value, 0, slash, "text")) {
                return OTHER;
            }
            if (sameSmall(value, slash + 1, stop, "plain")) {
                return PLAIN;
            }
            return sameSmall(value, slash + 1, stop, "html") ? HTML : OTHER;
        }

        private int tokenStop(int from) {
            int stop = from;
            while (stop < valueLength && isTokenSign(value[stop])) {
                stop++;
            }
            return stop;
        }

        private static boolean isTokenSign(int c) {
            return isLetter(c) || isDigit(c) || c == '+' || c == '-' || c == '.' || c == '_';
        }

        /** The place behind a parameter that stands here, whose value is then the coded bytes; -1 when there is none. */
        private int takeParameter(int from) {
            int i = blanksStop(value, from, valueLength);
            if (i >= valueLength || value[i] != ';') {
                return -1;
            }
            nameFrom = blanksStop(value, i + 1, valueLength);
            nameTo = tokenStop(nameFrom);
            if (nameTo == nameFrom || nameTo >= valueLength || value[nameTo] != '=') {
                return -1;
            }
            boolean quotes = nameTo + 1 < valueLength && value[nameTo + 1] == '"';
            return quotes ? takeQuotes(nameTo + 2) : takeBare(nameTo + 1);
        }

        private int takeBare(int from) {
            codedLength = 0;
            int i = from;
            while (i < valueLength && value[i] > 32 && value[i] < 127 && value[i] != ';' && value[i] != '"') {
                putCoded(value[i]);
                i++;
            }
            return i == from ? -1 : i;
        }

        private int takeQuotes(int from) {
            codedLength = 0;
            for (int i = from; i < valueLength; i++) {
                if (value[i] == '"') {
                    return i + 1;
                }
                if (value[i] == '\\') {
                    i++;
                }
                if (i < valueLength) {
                    putCoded(value[i]);
                }
            }
            return -1;
        }

        /** The first one of a name counts. */
        private void keepParameter() {
            if (charset == UNTOLD && sameSmall(value, nameFrom, nameTo, "charset")) {
                charset = charsetOf(coded, 0, codedLength);
                charset = charset == UNTOLD ? LATIN : charset;
            } else if (boundaryLength == UNTOLD && sameSmall(value, nameFrom, nameTo, "boundary")) {
                boundaryLength = codedLength;
                System.arraycopy(coded, 0, boundary, 0, Math.min(codedLength, MOST_BOUNDARY));
            } else if (tailLength == UNTOLD && sameSmall(value, nameFrom, nameTo, "name")) {
                tailLength = Math.min(codedLength, MOST_TAIL);
                System.arraycopy(coded, codedLength - tailLength, tail, 0, tailLength);
            }
        }

        private static int charsetOf(byte[] bytes, int from, int to) {
            if (sameSmall(bytes, from, to, "utf-8")) {
                return UTF8;
            }
            if (sameSmall(bytes, from, to, "us-ascii")) {
                return ASCII;
            }
            return sameSmall(bytes, from, to, "iso-8859-1") ? LATIN : UNTOLD;
        }

        /** How the value, read as a content-transfer-encoding, wants bytes to be taken. */
        int codingOf(boolean told) {
            if (told && sameSmall(value, 0, valueLength, "base64")) {
                return BASE64;
            }
            return told && sameSmall(value, 0, valueLength, "quoted-printable") ? QUOTED : AS_IS;
        }

        // -- codings of bytes

        private void putCoded(int b) {
            if (codedLength < coded.length) {
                coded[codedLength] = (byte) b;
                codedLength++;
            }
        }

        static int blanksStop(byte[] bytes, int from, int to) {
            int stop = from;
            while (stop < to && isBlank(bytes[stop])) {
                stop++;
            }
            return stop;
        }

        /** How many bytes the coded ones are then. */
        int fromBase64(byte[] bytes, int from, int to) {
            codedLength = 0;
            int bits = 0;
            int signs = 0;
            for (int i = from; i < to && bytes[i] != '='; i++) {
                int six = sixBits(bytes[i]);
                if (six >= 0) {
                    bits = bits << 6 | six;
                    signs++;
                }
                if (signs == 4) {
                    putCoded(bits >> 16);
                    putCoded(bits >> 8);
                    putCoded(bits);
                    bits = 0;
                    signs = 0;
                }
            }
            if (signs == 2) {
                putCoded(bits >> 4);
            } else if (signs == 3) {
                putCoded(bits >> 10);
                putCoded(bits >> 2);
            }
            return codedLength;
        }

        private static int sixBits(int c) {
            if (c >= 'A' && c <= 'Z') {
                return c - 'A';
            }
            if (c >= 'a' && c <= 'z') {
                return c - 'a' + 26;
            }
            if (c >= '0' && c <= '9') {
                return c - '0' + 52;
            }
            return c == '+' ? 62 : c == '/' ? 63 : -1;
        }

        /** How many bytes the coded ones are then. */
        int fromQuoted(byte[] bytes, int from, int to) {
            codedLength = 0;
            for (int i = from; i < to; i++) {
                int c = bytes[i];
                if (c == '=') {
                    int digits = hexPair(bytes, i + 1, to);
                    int behind = softStop(bytes, i + 1, to);
                    if (digits >= 0) {
                        putCoded(digits);
                        i += 2;
                    } else if (behind > i) {
                        i = behind - 1;
                    } else {
                        putCoded(c);
                    }
                } else if (isBlank(c)) {
                    int stop = blanksStop(bytes, i, to);
                    boolean atEnd = lineEndLength(bytes, stop, to) >= 0;
                    for (int k = i; k < stop && !atEnd; k++) {
                        putCoded(bytes[k]);
                    }
                    i = Math.max(i, stop - 1);
                } else {
                    putCoded(c);
                }
            }
            return codedLength;
        }

        /** The byte that two digits are; -1 when these are none. */
        private static int hexPair(byte[] bytes, int from, int to) {
            if (from < 0 || from + 1 >= to) {
                return -1;
            }
            int high = hexOf(bytes[from]);
            int low = hexOf(bytes[from + 1]);
            return high < 0 || low < 0 ? -1 : high * 16 + low;
        }

        /** The length of the line's end that stands here, 0 at the end of all; -1 when there is none. */
        private static int lineEndLength(byte[] bytes, int from, int to) {
            if (from >= to) {
                return 0;
            }
            if (bytes[from] == 10) {
                return 1;
            }
            return bytes[from] == 13 && from + 1 < to && bytes[from + 1] == 10 ? 2 : -1;
        }

        /** The place behind blanks and a line's end; -1 when these do not stand here. */
        private static int softStop(byte[] bytes, int from, int to) {
            int stop = blanksStop(bytes, from, to);
            int length = lineEndLength(bytes, stop, to);
            return length < 0 ? -1 : stop + length;
        }

        // -- chars

        /** The bytes' chars come into the row from place at on: the place behind them. */
        int decode(byte[] bytes, int from, int to, int set, int[] out, int at) {
            int place = at;
            for (int i = from; i < to && i < bytes.length && place < out.length; i++) {
                int c = bytes[i] & 255;
                if (c > 127 && set == ASCII) {
                    c = NO_CHAR;
                } else if (c > 127 && set == UTF8) {
                    int more = bytesBehind(c);
                    int joined = joinedChar(bytes, i, to, more);
                    c = joined < 0 ? NO_CHAR : joined;
                    i += joined < 0 ? 0 : more;
                }
                out[place] = c;
                place++;
            }
            return place;
        }

        private static int bytesBehind(int c) {
            if (c < 194 || c > 244) {
                return 0;
            }
            return c < 224 ? 1 : c < 240 ? 2 : 3;
        }

        /** The char of a byte and so many behind it; -1 when they are none. */
        private static int joinedChar(byte[] bytes, int from, int to, int more) {
            if (more < 1 || from + more >= to) {
                return -1;
            }
            int c = bytes[from] & (more == 1 ? 31 : more == 2 ? 15 : 7);
            for (int i = 1; i <= more; i++) {
                int b = bytes[from + i] & 255;
                if (b < 128 || b > 191) {
                    return -1;
                }
                c = c << 6 | b & 63;
            }
            boolean small = more == 2 && c < 2048 || more == 3 && c < 65536;
            return small || c >= 55296 && c <= 57343 || c > 1114111 ? -1 : c;
        }

        /** The CHARS of a message's header come into the row from place at on: the place behind them. */
        int decodeHeader(Mail mail, int h, int[] out, int at) {
            unfold(mail.headers, mail.valueFrom(h), mail.valueTo(h));
            int length = at;
            // where blanks may begin that only lie between two encoded words
            int gap = -1;
            for (int i = 0; i < valueLength && length < out.length; i++) {
                int behind = value[i] == '=' ? wordStop(i) : -1;
                if (behind > i) {
                    length = putWord(out, gap >= 0 ? gap : length);
                    gap = length;
                    i = behind - 1;
                } else {
                    if (!isBlank(value[i])) {
                        gap = -1;
                    }
                    out[length] = value[i] & 255;
                    length++;
                }
            }
            return length;
        }

        /** The place behind the encoded word that begins here; -1 when none does. */
        private int wordStop(int from) {
            int name = from + 2;
            int mark = name;
            while (mark < valueLength && isCharsetSign(value[mark])) {
                mark++;
            }
            if (mark == name || mark + 2 >= valueLength || value[from + 1] != '?' || value[mark] != '?' || value[mark + 2] != '?') {
                return -1;
            }
            int letter = small(value[mark + 1]);
            int stop = mark + 3;
            while (stop < valueLength && value[stop] > 32 && value[stop] < 127 && value[stop] != '?') {
                stop++;
            }
            if (letter != 'b' && letter != 'q' || stop + 1 >= valueLength || value[stop] != '?' || value[stop + 1] != '=') {
                return -1;
            }
            wordFrom = mark + 3;
            wordTo = stop;
            wordQuoted = letter == 'q';
            wordCharset = charsetOf(value, name, mark);
            return wordCharset == UNTOLD || wordQuoted && !isRightQuoted() ? -1 : stop + 2;
        }

        private static boolean isCharsetSign(int c) {
            return isLetter(c) || isDigit(c) || c == '-' || c == '_';
        }

        private boolean isRightQuoted() {
            for (int i = wordFrom; i < wordTo; i++) {
                if (value[i] == '=' && hexPair(value, i + 1, wordTo) < 0) {
                    return false;
                }
            }
            return true;
        }

        /** The chars of the encoded word that was found latest come into the row: the place behind them. */
        private int putWord(int[] out, int at) {
            if (!wordQuoted) {
                fromBase64(value, wordFrom, wordTo);
                return decode(coded, 0, codedLength, wordCharset, out, at);
            }
            codedLength = 0;
            for (int i = wordFrom; i < wordTo; i++) {
                if (value[i] == '=') {
                    putCoded(hexPair(value, i + 1, wordTo));
                    i += 2;
                } else {
                    putCoded(value[i] == '_' ? ' ' : value[i]);
                }
            }
            return decode(coded, 0, codedLength, wordCharset, out, at);
        }
    }

    /** A message taken apart: its parts, texts, uris and tokens; used again for each message. */
    private static final class Letter {
        static final int MOST_PARTS = 20;
        static final int MOST_TEXT = 8000;
        static final int MOST_URIS = 20;
        static final int MOST_URI = 120;
        static final int MOST_HOST = 40;
        static final int MOST_TOKENS = 100;
        /** A link needs ten bytes of the body. */
        static final int MOST_LINKS = 600;

        static final int HEAD_FROM = 0;
        static final int HEAD_TO = 1;
        static final int BODY_FROM = 2;
        static final int BODY_TO = 3;
        static final int DEPTH = 4;
        static final int TAIL = 5;

        static final int URI_ROW = 0;
        static final int URI_FROM = 1;
        static final int URI_TO = 2;

        final Mime mime = new Mime();
        final int[][] parts = new int[MOST_PARTS][6];
        int partCount;
        final byte[][] tails = new byte[MOST_PARTS][Mime.MOST_TAIL];
        final int[] text = new int[MOST_TEXT];
        int textLength;
        private int leafStart;
        private boolean lineDue;
        private boolean blankDue;
        final int[] raw = new int[MOST_TEXT];
        int rawLength;
        private final int[] links = new int[2 * MOST_LINKS];
        private int linkCount;
        final int[][] uris = new int[MOST_URIS][3];
        int uriCount;
        final long[] tokens = new long[MOST_TOKENS];
        int tokenCount;
        /** The CHARS of all headers; header h's begin at headerStarts[h]. */
        final int[] headerChars = new int[Mail.MOST_HEADER_BYTES];
        final int[] headerStarts = new int[Mail.MOST_HEADERS + 1];

        void takeApart(Mail mail) {
            textLength = 0;
            rawLength = 0;
            linkCount = 0;
            uriCount = 0;
            tokenCount = 0;
            partCount = 1;
            setPart(parts[0], 0, 0, 0, mail.bodyLength, 0);
            for (int k = 0; k < MOST_PARTS && k < partCount; k++) {
                mime.readType(loadField(mail, k, "content-type"));
                boolean bounded = mime.boundaryLength >= 1 && mime.boundaryLength <= Mime.MOST_BOUNDARY;
                if (mime.kind == Mime.MULTIPART && bounded && parts[k][DEPTH] <= 3) {
                    split(mail.body, k);
                } else if (mime.kind == Mime.PLAIN || mime.kind == Mime.HTML) {
                    int from = rawLength;
                    beginLeaf(mail.body, parts[k], mime.codingOf(loadField(mail, k, "content-transfer-encoding")));
                    if (mime.kind == Mime.HTML) {
                        addMarkup(from, rawLength);
                    } else {
                        addPlain(from, rawLength);
                    }
                    endLeaf();
                } else {
                    parts[k][TAIL] = mime.tailLength;
                    System.arraycopy(mime.tail, 0, tails[k], 0, Mime.MOST_TAIL);
                }
            }
            for (int h = 0; h < mail.headerCount; h++) {
                headerStarts[h + 1] = mime.decodeHeader(mail, h, headerChars, headerStarts[h]);
            }
            collectUris();
            collectTokens(mail);
        }

        private static void setPart(int[] part, int headFrom, int headTo, int bodyFrom, int bodyTo, int depth) {
            part[HEAD_FROM] = headFrom;
            part[HEAD_TO] = headTo;
            part[BODY_FROM] = bodyFrom;
            part[BODY_TO] = bodyTo;
            part[DEPTH] = depth;
            part[TAIL] = Mime.UNTOLD;
        }

        /** A part's field becomes the value; false when it has none such. */
        private boolean loadField(Mail mail, int k, String field) {
            if (k > 0) {
                return mime.findField(mail.body, parts[k][HEAD_FROM], parts[k][HEAD_TO], field);
            }
            int h = mail.headerNamed(field);
            if (h >= 0) {
                mime.unfold(mail.headers, mail.valueFrom(h), mail.valueTo(h));
            }
            return h >= 0;
        }

        // -- parts

        /** The parts of part k come behind it. */
        private void split(byte[] body, int k) {
            int[] whole = parts[k];
            int to = whole[BODY_TO];
            int next = k + 1;
            int begun = -1;
            int stopBefore = 0;
            for (int i = whole[BODY_FROM]; i < to; i++) {
                int stop = Mime.lineStop(body, i, to);
                int content = Mime.contentStop(body, i, stop, to);
                int kind = separatorKind(body, i, content);
                if (kind > 0 && begun >= 0) {
                    addPart(body, next, begun, i == begun ? begun : stopBefore, whole[DEPTH] + 1);
                    next++;
                }
                if (kind == 2) {
                    return;
                }
                if (kind == 1) {
                    begun = Math.min(stop + 1, to);
                }
                stopBefore = content;
                i = stop;
            }
            if (begun >= 0) {
                addPart(body, next, begun, to, whole[DEPTH] + 1);
            }
        }

        /** 0 the line is no separator, 1 it is one, 2 it is the last one. */
        private int separatorKind(byte[] body, int from, int to) {
            int behind = from + 2 + mime.boundaryLength;
            if (behind > to || body[from] != '-' || body[from + 1] != '-') {
                return 0;
            }
            for (int i = 0; i < mime.boundaryLength; i++) {
                if (body[from + 2 + i] != mime.boundary[i]) {
                    return 0;
                }
            }
            if (Mime.blanksStop(body, behind, to) == to) {
                return 1;
            }
            boolean dashes = behind + 2 <= to && body[behind] == '-' && body[behind + 1] == '-';
            return dashes && Mime.blanksStop(body, behind + 2, to) == to ? 2 : 0;
        }

        /** A part becomes number k; those from k on move up, and the last one of too many is left out. */
        private void addPart(byte[] body, int k, int from, int to, int depth) {
            if (k >= MOST_PARTS) {
                return;
            }
            partCount = Math.min(MOST_PARTS, partCount + 1);
            int[] part = parts[partCount - 1];
            for (int i = partCount - 1; i > k; i--) {
                parts[i] = parts[i - 1];
            }
            parts[k] = part;
            setPart(part, from, to, to, to, depth);
            for (int i = from; i < to; i++) {
                int stop = Mime.lineStop(body, i, to);
                if (Mime.contentStop(body, i, stop, to) == i) {
                    setPart(part, from, i, Math.min(stop + 1, to), to, depth);
                    return;
                }
                i = stop;
            }
        }

        /** The chars of a leaf come to the raw text. */
        private void beginLeaf(byte[] body, int[] part, int coding) {
            int from = part[BODY_FROM];
            int to = part[BODY_TO];
            if (coding == Mime.AS_IS) {
                rawLength = mime.decode(body, from, to, mime.charset, raw, rawLength);
            } else {
                int length = coding == Mime.BASE64 ? mime.fromBase64(body, from, to) : mime.fromQuoted(body, from, to);
                rawLength = mime.decode(mime.coded, 0, length, mime.charset, raw, rawLength);
            }
            leafStart = textLength;
            lineDue = false;
            blankDue = false;
        }

        private void addPlain(int from, int to) {
            for (int i = from; i < to; i++) {
                addSmooth(raw[i]);
            }
        }

        /** A 10 comes behind both texts. */
        private void endLeaf() {
            addText(10);
            if (rawLength < MOST_TEXT) {
                raw[rawLength] = 10;
                rawLength++;
            }
        }

        boolean hasAttachment(Rule rule) {
            for (int k = 0; k < partCount; k++) {
                if (endsWithWord(tails[k], parts[k][TAIL], rule)) {
                    return true;
                }
            }
            return false;
        }

        private static boolean endsWithWord(byte[] tail, int length, Rule rule) {
            int wordLength = rule.wordTo - rule.wordFrom;
            int point = length - wordLength - 1;
            if (point < 0 || length > tail.length || tail[point] != '.') {
                return false;
            }
            for (int i = 0; i < wordLength; i++) {
                if (small(tail[point + 1 + i]) != small(rule.source[rule.wordFrom + i])) {
                    return false;
                }
            }
            return true;
        }

        // -- text

        private void addText(int c) {
            if (textLength < MOST_TEXT) {
                text[textLength] = c;
                textLength++;
            }
        }

        /** Lines' ends and blanks wait until a char comes that shows them to lie within the leaf's text. */
        private void addSmooth(int c) {
            if (c == 13) {
                return;
            }
            if (c == 10) {
                lineDue = true;
            } else if (c == 9 || c == 32 || c == 160) {
                blankDue = true;
            } else {
                if (textLength > leafStart && (lineDue || blankDue)) {
                    addText(lineDue ? 10 : 32);
                }
                lineDue = false;
                blankDue = false;
                addText(c);
            }
        }

        private void addMarkup(int from, int to) {
            for (int i = from; i < to; i++) {
                int c = raw[i];
                int behind = i;
                int next = i + 1 < to ? raw[i + 1] : -1;
                if (c == '<') {
                    if (standsAt("<!--", i, to)) {
                        behind = Math.min(to, placeOf("-->", i + 4, to) + 3);
                    } else if (isLetter(next) || next == '/' || next == '!') {
                        behind = takeTag(i, to);
                    }
                } else if (c == '&') {
                    behind = next == '#' ? takeNumbered(i, to) : takeNamed(i, to);
                }
                if (behind > i) {
                    i = behind - 1;
                } else {
                    addSmooth(c);
                }
            }
        }

        /** Whether a small word stands in the raw text, SMALL, at a place. */
        private boolean standsAt(String word, int at, int to) {
            if (at < 0 || at + word.length() > to) {
                return false;
            }
            for (int i = 0; i < word.length(); i++) {
                int c = raw[at + i];
                // small() written out: calls are deep here
                if ((c >= 'A' && c <= 'Z' ? c + 32 : c) != word.charAt(i)) {
                    return false;
                }
            }
            return true;
        }

        /** The next place at which the word stands; to when there is none. */
        private int placeOf(String word, int from, int to) {
            for (int i = from; i < to; i++) {
                if (standsAt(word, i, to)) {
                    return i;
                }
            }
            return to;
        }

        /** The place behind a tag, and behind what it leaves out. */
        private int takeTag(int from, int to) {
            int close = from + 1;
            while (close < to && raw[close] != '>') {
                close++;
            }
            findLink(from, close);
            boolean slash = raw[from + 1] == '/';
            int name = from + (slash ? 2 : 1);
            int length = 0;
            while (name + length < close && (isLetter(raw[name + length]) || isDigit(raw[name + length]))) {
                length++;
            }
            if (isBreak(name, length)) {
                addSmooth(10);
            }
            int behind = Math.min(close + 1, to);
            if (!slash && length == 6 && standsAt("script", name, close)) {
                return placeOf("</script", behind, to);
            }
            if (!slash && length == 5 && standsAt("style", name, close)) {
                return placeOf("</style", behind, to);
            }
            return behind;
        }

        private boolean isBreak(int at, int length) {
            switch (length) {
                case 1: return standsAt("p", at, at + 1);
                case 2: return standsAt("br", at, at + 2) || standsAt("tr", at, at + 2) || standsAt("li", at, at + 2)
                    || standsAt("h1", at, at + 2);
                case 3: return standsAt("div", at, at + 3);
                default: return false;
            }
        }

        private void findLink(int from, int close) {
            for (int i = from; i + 6 < close; i++) {
                if (isBlank(raw[i]) && raw[i + 6] == '"' && standsAt("href=", i + 1, close)) {
                    int stop = i + 7;
                    while (stop < close && raw[stop] != '"') {
                        stop++;
                    }
                    if (linkCount < MOST_LINKS) {
                        links[2 * linkCount] = i + 7;
                        links[2 * linkCount + 1] = stop;
                        linkCount++;
                    }
                    return;
                }
            }
        }

        /** The place behind a sign 38 and a name that are a char, which comes to the text; the sign's place when they are none. */
        private int takeNamed(int from, int to) {
            // standsAt() would take great letters, which these names do not have
            int semicolon = from + 1;
            while (semicolon < to && semicolon <= from + 5 && raw[semicolon] >= 'a' && raw[semicolon] <= 'z') {
                semicolon++;
            }
            if (semicolon >= to || raw[semicolon] != ';') {
                return from;
            }
            int c = entityChar(from + 1, semicolon);
            if (c < 0) {
                return from;
            }
            addSmooth(c);
            return semicolon + 1;
        }

        private int entityChar(int from, int to) {
            switch (to - from) {
                case 2: return standsAt("lt", from, to) ? '<' : standsAt("gt", from, to) ? '>' : -1;
                case 3: return standsAt("amp", from, to) ? '&' : -1;
                case 4: return standsAt("quot", from, to) ? '"' : standsAt("nbsp", from, to) ? ' ' : -1;
                default: return -1;
            }
        }

        /** Likewise of the signs 38 and #. */
        private int takeNumbered(int from, int to) {
            int number = 0;
            int i = from + 2;
            while (i < to && i < from + 9 && isDigit(raw[i])) {
                number = number * 10 + raw[i] - '0';
                i++;
            }
            if (i == from + 2 || i >= to || raw[i] != ';') {
                return from;
            }
            boolean none = number == 0 || number >= 55296 && number <= 57343 || number > 1114111;
            addSmooth(none ? Mime.NO_CHAR : number);
            return i + 1;
        }

        // -- uris

        private void collectUris() {
            for (int i = 0; i < textLength; i++) {
                int stop = uriStop(text, i, textLength);
                if (stop > i) {
                    addUri(0, i, stop);
                    i = stop - 1;
                }
            }
            for (int k = 0; k < linkCount; k++) {
                int from = links[2 * k];
                int stop = uriStop(raw, from, links[2 * k + 1]);
                if (stop > from) {
                    addUri(1, from, stop);
                }
            }
        }

        private void addUri(int which, int from, int stop) {
            if (uriCount < MOST_URIS) {
                uris[uriCount][URI_ROW] = which;
                uris[uriCount][URI_FROM] = from;
                uris[uriCount][URI_TO] = Math.min(stop, from + MOST_URI);
                uriCount++;
            }
        }

        /** The place behind the uri that begins here; -1 when none does. */
        private static int uriStop(int[] chars, int from, int to) {
            int host = hostPlace(chars, from, to);
            if (host < 0 || host >= to || !isHostSign(chars[host])) {
                return -1;
            }
            int stop = host;
            while (stop < to && isUriSign(chars[stop])) {
                stop++;
            }
            return stop;
        }

        /** The place behind http:// or https:// that stands here; -1 when none does. */
        private static int hostPlace(int[] chars, int from, int to) {
            String secure = "https://";
            int i = from;
            for (int k = 0; k < secure.length(); k++) {
                int c = i < to ? small(chars[i]) : -1;
                if (c == secure.charAt(k)) {
                    i++;
                } else if (k != 4) {
                    return -1;
                }
            }
            return i;
        }

        private static boolean isHostSign(int c) {
            return isLetter(c) || isDigit(c) || c == '-' || c == '.';
        }

        private static boolean isUriSign(int c) {
            return c > 32 && c < 127 && c != '<' && c != '>' && c != '"' && c != '\'' && c != '(' && c != ')';
        }

        // -- tokens

        private void collectTokens(Mail mail) {
            collectHeaderWords(mail.headerNamed("subject"), 's');
            collectHeaderWords(mail.headerNamed("from"), 'f');
            collectWords(text, 0, textLength, DIGEST_START);
            for (int u = 0; u < uriCount; u++) {
                addHost(uris[u][URI_ROW] == 0 ? text : raw, uris[u][URI_FROM], uris[u][URI_TO]);
            }
        }

        private void collectHeaderWords(int h, int letter) {
            if (h >= 0) {
                long start = digestStep(digestStep(DIGEST_START, letter), ':');
                collectWords(headerChars, headerStarts[h], headerStarts[h + 1], start);
            }
        }

        /** Digests of words go on from the one of what stands ahead of each. */
        private void collectWords(int[] chars, int from, int to, long start) {
            int word = from;
            for (int i = from; i <= to && i <= chars.length; i++) {
                if (i < to && isTokenChar(chars[i])) {
                    continue;
                }
                if (i - word >= 3 && i - word <= 12) {
                    long h = start;
                    for (int k = word; k < i; k++) {
                        h = digestChar(h, small(chars[k]));
                    }
                    addToken(h);
                }
                word = i + 1;
            }
        }

        private static boolean isTokenChar(int c) {
            return isLetter(c) || isDigit(c) || c == '\'' || c == '$' || c == '-' || c > 127;
        }

        private void addHost(int[] chars, int from, int to) {
            int host = Math.max(0, hostPlace(chars, from, to));
            int stop = host;
            while (stop < to && isHostSign(chars[stop])) {
                stop++;
            }
            while (stop > host && chars[stop - 1] == '.') {
                stop--;
            }
            long h = digestStep(digestStep(DIGEST_START, 'u'), ':');
            for (int i = host; i < stop && i < host + MOST_HOST; i++) {
                h = digestChar(h, small(chars[i]));
            }
            addToken(h);
        }

        private void addToken(long digest) {
            if (tokenCount >= MOST_TOKENS) {
                return;
            }
            for (int i = 0; i < tokenCount; i++) {
                if (tokens[i] == digest) {
                    return;
                }
            }
            tokens[tokenCount] = digest;
            tokenCount++;
        }
    }

    // ---- the store

    /** What was learnt of words, and the journal from which it can be learnt again. */
    private static final class Store {
        static final int MOST_ENTRIES = 200;
        static final int MOST_JOURNAL = 12000;
        static final int MOST_COUNT = 65535;
        static final int MOST_PICKED = 15;
        static final int LEARN_BYTES = 8;
        static final int EXPIRE_BYTES = 6;
        static final int TOTALS_BYTES = 6;
        static final int ENTRY_BYTES = 18;

        final long[] digests = new long[MOST_ENTRIES];
        final int[] spams = new int[MOST_ENTRIES];
        final int[] hams = new int[MOST_ENTRIES];
        final int[] lasts = new int[MOST_ENTRIES];
        int count;
        int spamTotal;
        int hamTotal;
        final byte[] journal = new byte[MOST_JOURNAL];
        int journalLength;
        int synced;
        private final double[] strengths = new double[MOST_PICKED];
        private final double[] picked = new double[MOST_PICKED];

        int indexOf(long digest) {
            for (int i = 0; i < count; i++) {
                if (digests[i] == digest) {
                    return i;
                }
            }
            return -1;
        }

        // -- learning and expiry

        /** How many entries there are then; -2 when the journal has no room. */
        int learnMessage(long[] tokens, int n, boolean spam, int time) {
            if (journalLength + LEARN_BYTES + 8 * n > MOST_JOURNAL) {
                return -2;
            }
            int start = journalLength;
            write(1, 1);
            write(spam ? 1 : 0, 1);
            write(time, 4);
            write(n, 1);
            for (int i = 0; i < n && i < tokens.length; i++) {
                write(tokens[i], 8);
                learnToken(tokens[i], spam, time);
            }
            writeSum(start);
            countMessage(spam);
            return count;
        }

        private void learnToken(long digest, boolean spam, int time) {
            int at = indexOf(digest);
            if (at < 0) {
                if (count >= MOST_ENTRIES) {
                    dropOldest();
                }
                at = count;
                addEntry(digest, 0, 0, time);
            }
            if (spam) {
                spams[at] = Math.min(MOST_COUNT, spams[at] + 1);
            } else {
                hams[at] = Math.min(MOST_COUNT, hams[at] + 1);
            }
            lasts[at] = time;
        }

        private void countMessage(boolean spam) {
            if (spam) {
                spamTotal = Math.min(MOST_COUNT, spamTotal + 1);
            } else {
                hamTotal = Math.min(MOST_COUNT, hamTotal + 1);
            }
        }

        private void addEntry(long digest, int spam, int ham, int last) {
            if (count < MOST_ENTRIES) {
                putEntry(count, digest, spam, ham, last);
                count++;
            }
        }

        private void putEntry(int at, long digest, int spam, int ham, int last) {
            digests[at] = digest;
            spams[at] = spam;
            hams[at] = ham;
            lasts[at] = last;
        }

        private void dropOldest() {
            int oldest = 0;
            for (int i = 1; i < count; i++) {
                if (lasts[i] < lasts[oldest] || lasts[i] == lasts[oldest] && digests[i] < digests[oldest]) {
                    oldest = i;
                }
            }
            for (int i = oldest + 1; i < count; i++) {
                putEntry(i - 1, digests[i], spams[i], hams[i], lasts[i]);
            }
            count--;
        }

        /** How many entries went; -2 when the journal has no room. */
        int expireAt(int time) {
            if (journalLength + EXPIRE_BYTES > MOST_JOURNAL) {
                return -2;
            }
            int start = journalLength;
            write(2, 1);
            write(time, 4);
            writeSum(start);
            return dropBefore(time);
        }

        private int dropBefore(int time) {
            int kept = 0;
            for (int i = 0; i < count; i++) {
                if (lasts[i] >= time) {
                    putEntry(kept, digests[i], spams[i], hams[i], lasts[i]);
                    kept++;
                }
            }
            int went = count - kept;
            count = kept;
            return went;
        }

        // -- the journal

        private void write(long number, int bytes) {
            for (int shift = 8 * bytes - 8; shift >= 0 && journalLength < MOST_JOURNAL; shift -= 8) {
                journal[journalLength] = (byte) (number >> shift);
                journalLength++;
            }
        }

        private long readNumber(int at, int bytes) {
            long number = 0;
            for (int i = at; i < at + bytes && i < MOST_JOURNAL; i++) {
                number = number << 8 | journal[i] & 255;
            }
            return number;
        }

        private int sumOf(int from, int to) {
            int sum = 0;
            for (int i = from; i < to && i < MOST_JOURNAL; i++) {
                sum += journal[i];
            }
            return sum & 255;
        }

        private void writeSum(int from) {
            write(sumOf(from, journalLength), 1);
        }

        /** The journal becomes the store as it is: how many bytes it has. */
        int rewrite() {
            journalLength = 0;
            write(3, 1);
            write(spamTotal, 2);
            write(hamTotal, 2);
            writeSum(0);
            for (int i = 0; i < count; i++) {
                int start = journalLength;
                write(4, 1);
                write(digests[i], 8);
                write(spams[i], 2);
                write(hams[i], 2);
                write(lasts[i], 4);
                writeSum(start);
            }
            synced = journalLength;
            return journalLength;
        }

        /** The store becomes what the journal's first bytes tell: how many of them are right. */
        int restart(int length) {
            count = 0;
            spamTotal = 0;
            hamTotal = 0;
            int at = 0;
            for (int left = length; left > 0 && at < length; left--) {
                int size = recordSize(at, length);
                if (size < 0 || sumOf(at, at + size - 1) != (journal[at + size - 1] & 255)) {
                    break;
                }
                redo(at);
                at += size;
            }
            journalLength = at;
            synced = at;
            return at;
        }

        /** The size of the record there; -1 when it is none, or not whole. */
        private int recordSize(int at, int to) {
            int size;
            switch (journal[at]) {
                case 1: size = at + 7 <= to ? LEARN_BYTES + 8 * (journal[at + 6] & 255) : -1; break;
                case 2: size = EXPIRE_BYTES; break;
                case 3: size = TOTALS_BYTES; break;
                case 4: size = ENTRY_BYTES; break;
                default: size = -1; break;
            }
            return at + size > to ? -1 : size;
        }

        private void redo(int at) {
            switch (journal[at]) {
                case 1:
                    boolean spam = journal[at + 1] == 1;
                    int tokens = journal[at + 6] & 255;
                    for (int i = 0; i < tokens; i++) {
                        learnToken(readNumber(at + 7 + 8 * i, 8), spam, (int) readNumber(at + 2, 4));
                    }
                    countMessage(spam);
                    break;
                case 2:
                    dropBefore((int) readNumber(at + 1, 4));
                    break;
                case 3:
                    spamTotal = (int) readNumber(at + 1, 2);
                    hamTotal = (int) readNumber(at + 3, 2);
                    break;
                default:
                    addEntry(readNumber(at + 1, 8), (int) readNumber(at + 9, 2), (int) readNumber(at + 11, 2), (int) readNumber(at + 13, 4));
                    break;
            }
        }

        // -- the indicator

        double indicatorOf(long[] tokens, int n) {
            if (spamTotal == 0 || hamTotal == 0) {
                return 0.5;
            }
            int k = 0;
            for (int i = 0; i < n && i < tokens.length; i++) {
                int at = indexOf(tokens[i]);
                if (at >= 0 && spams[at] + hams[at] > 0) {
                    k = pick(weightOf(spams[at], hams[at]), k);
                }
            }
            if (k == 0) {
                return 0.5;
            }
            double p = 1.0;
            double q = 1.0;
            for (int i = 0; i < k; i++) {
                p = p * picked[i];
                q = q * (1.0 - picked[i]);
            }
            return (1.0 + chi(p, k) - chi(q, k)) / 2.0;
        }

        private double weightOf(int spam, int ham) {
            double b = (double) spam / (double) spamTotal;
            double g = (double) ham / (double) hamTotal;
            double p = b / (b + g);
            double n = (double) (spam + ham);
            return (0.45 * 0.5 + n * p) / (0.45 + n);
        }

        /** A weight takes its place among the k strongest so far, behind those as strong: how many there are then. */
        private int pick(double weight, int k) {
            double strength = weight - 0.5;
            strength = strength < 0.0 ? -strength : strength;
            if (strength < 0.1) {
                return k;
            }
            int place = k;
            while (place > 0 && strengths[place - 1] < strength) {
                place--;
            }
            if (place >= MOST_PICKED) {
                return k;
            }
            int most = Math.min(MOST_PICKED, k + 1);
            for (int i = most - 1; i > place; i--) {
                strengths[i] = strengths[i - 1];
                picked[i] = picked[i - 1];
            }
            strengths[place] = strength;
            picked[place] = weight;
            return most;
        }

        private static double chi(double x, int k) {
            double m = -ln(x);
            double sum = 1.0;
            double term = 1.0;
            for (int i = 1; i < k; i++) {
                term = term * m / i;
                sum = sum + term;
            }
            double result = x * sum;
            return result > 1.0 ? 1.0 : result;
        }

        private static double ln(double value) {
            double x = value;
            int e = 0;
            // 1,100 doublings lift the least double there is above 0.5
            for (int guard = 0; guard < 1100 && x < 0.5; guard++) {
                x = x * 2.0;
                e++;
            }
            double y = (x - 1.0) / (x + 1.0);
            double z = y * y;
            double r = 0.0;
            for (int j = 41; j >= 1; j -= 2) {
                r = r * z + 1.0 / j;
            }
            return 2.0 * y * r - e * 0.6931471805599453;
        }
    }

    // ---- block lists and the greylist

    /** The queries that are open, and the values that answers gave. */
    private static final class Lookups {
        static final int MOST_QUERIES = 12;
        static final int MOST_VALUES = 16;
        /** Four labels of three digits, a zone of 40 signs, and the 0. */
        static final int MOST_QUESTION = 64;
        static final int HEAD_BYTES = 12;
        static final int TAIL_BYTES = 4;
        static final int LIFE = 5;
        static final int SHORT_LIFE = 60;
        static final int LONG_LIFE = 86400;

        private final byte[][] packets = new byte[MOST_QUERIES][HEAD_BYTES + MOST_QUESTION + TAIL_BYTES];
        private final int[] lengths = new int[MOST_QUERIES];
        private final int[] times = new int[MOST_QUERIES];
        int queryCount;
        private int latestId;
        private final byte[][] keys = new byte[MOST_VALUES][MOST_QUESTION];
        private final int[] keyLengths = new int[MOST_VALUES];
        private final int[] values = new int[MOST_VALUES];
        private final int[] ends = new int[MOST_VALUES];
        int cacheCount;
        private final byte[] question = new byte[MOST_QUESTION];
        private int questionLength;
        private int answerBits;
        private int answerLife;

        int packetByte(int k, int i) {
            return k < 0 || k >= queryCount || i < 0 || i >= lengths[k] ? -1 : packets[k][i] & 255;
        }

        // -- asking

        private void putQuestion(int b) {
            if (questionLength < MOST_QUESTION) {
                question[questionLength] = (byte) b;
                questionLength++;
            }
        }

        /** The name of an address in a zone becomes the question, as labels. */
        private void ask(int address, byte[] zone) {
            questionLength = 0;
            for (int shift = 0; shift < 32; shift += 8) {
                int number = address >>> shift & 255;
                putQuestion(number > 99 ? 3 : number > 9 ? 2 : 1);
                if (number > 99) {
                    putQuestion('0' + number / 100);
                }
                if (number > 9) {
                    putQuestion('0' + number / 10 % 10);
                }
                putQuestion('0' + number % 10);
            }
            int from = 0;
            for (int i = 0; i <= zone.length; i++) {
                if (i == zone.length || zone[i] == '.') {
                    putQuestion(i - from);
                    for (int k = from; k < i; k++) {
                        putQuestion(zone[k]);
                    }
                    from = i + 1;
                }
            }
            putQuestion(0);
        }

        private boolean isQuestion(byte[] bytes, int from, int length) {
            if (length != questionLength || from + length > bytes.length) {
                return false;
            }
            for (int i = 0; i < length; i++) {
                if (bytes[from + i] != question[i]) {
                    return false;
                }
            }
            return true;
        }

        private boolean isOpen() {
            for (int k = 0; k < queryCount; k++) {
                if (isQuestion(packets[k], HEAD_BYTES, lengths[k] - HEAD_BYTES - TAIL_BYTES)) {
                    return true;
                }
            }
            return false;
        }

        private int cachedPlace() {
            for (int i = 0; i < cacheCount; i++) {
                if (isQuestion(keys[i], 0, keyLengths[i])) {
                    return i;
                }
            }
            return -1;
        }

        boolean isAsked(int address, byte[] zone) {
            ask(address, zone);
            return isOpen();
        }

        /** The value that is still good; 0 when there is none. */
        int bitsOf(int address, byte[] zone, int now) {
            ask(address, zone);
            int place = cachedPlace();
            return place >= 0 && ends[place] > now ? values[place] : 0;
        }

        void lookUp(int address, byte[] zone, int now) {
            ask(address, zone);
            int place = cachedPlace();
            if (place >= 0 && ends[place] > now || isOpen() || queryCount >= MOST_QUERIES) {
                return;
            }
            latestId = latestId >= 65535 ? 1 : latestId + 1;
            byte[] packet = packets[queryCount];
            Arrays.fill(packet, (byte) 0);
            packet[0] = (byte) (latestId >> 8);
            packet[1] = (byte) latestId;
            packet[2] = 1;
            packet[5] = 1;
            System.arraycopy(question, 0, packet, HEAD_BYTES, questionLength);
            int tail = HEAD_BYTES + questionLength;
            packet[tail + 1] = 1;
            packet[tail + 3] = 1;
            lengths[queryCount] = tail + TAIL_BYTES;
            times[queryCount] = now;
            queryCount++;
        }

        void dropOld(int now) {
            for (int k = queryCount - 1; k >= 0; k--) {
                if (now - times[k] >= LIFE) {
                    dropQuery(k);
                }
            }
        }

        private void dropQuery(int gone) {
            byte[] packet = packets[gone];
            for (int k = gone + 1; k < queryCount; k++) {
                packets[k - 1] = packets[k];
                lengths[k - 1] = lengths[k];
                times[k - 1] = times[k];
            }
            queryCount--;
            packets[queryCount] = packet;
        }

        // -- answers

        boolean takeAnswer(byte[] answer, int n, int now) {
            if (n < HEAD_BYTES || n > answer.length) {
                return false;
            }
            int k = queryOf(answer);
            int flags = answer[2] & 255;
            if (k < 0 || flags < 128 || flags / 8 % 16 != 0 || answer[4] != 0 || answer[5] != 1 || !isAnswerTo(answer, n, k)) {
                return false;
            }
            int code = answer[3] & 15;
            answerBits = 0;
            answerLife = SHORT_LIFE;
            if (code == 0 && !readRecords(answer, n, lengths[k])) {
                return false;
            }
            if (code == 0 || code == 3) {
                keep(packets[k], lengths[k] - HEAD_BYTES - TAIL_BYTES, now + answerLife);
            }
            dropQuery(k);
            return true;
        }

        private int queryOf(byte[] answer) {
            for (int k = 0; k < queryCount; k++) {
                if (packets[k][0] == answer[0] && packets[k][1] == answer[1]) {
                    return k;
                }
            }
            return -1;
        }

        private boolean isAnswerTo(byte[] answer, int n, int k) {
            if (lengths[k] > n) {
                return false;
            }
            for (int i = HEAD_BYTES; i < lengths[k]; i++) {
                // lengths, types and classes are far below the letters, so all bytes may be made small
                if (small(answer[i]) != packets[k][i]) {
                    return false;
                }
            }
            return true;
        }

        private static int shortAt(byte[] bytes, int at) {
            return (bytes[at] & 255) << 8 | bytes[at + 1] & 255;
        }

        /** Reads the bits and the time to live; false when the records are not as told. */
        private boolean readRecords(byte[] answer, int n, int from) {
            int records = shortAt(answer, 6);
            long least = -1;
            int at = from;
            for (int r = 0; r < records; r++) {
                at = nameStop(answer, n, at);
                if (records > 10 || at < 0 || at + 10 > n) {
                    return false;
                }
                boolean address = shortAt(answer, at) == 1 && shortAt(answer, at + 2) == 1;
                long life = (long) shortAt(answer, at + 4) << 16 | shortAt(answer, at + 6);
                int length = shortAt(answer, at + 8);
                at += 10;
                if (at + length > n) {
                    return false;
                }
                if (address) {
                    least = least < 0 ? life : Math.min(least, life);
                }
                if (address && length == 4 && answer[at] == 127 && answer[at + 1] == 0 && answer[at + 2] == 0) {
                    answerBits |= answer[at + 3] & 255;
                }
                at += length;
            }
            answerLife = least < 0 ? SHORT_LIFE : (int) Math.min(least, LONG_LIFE);
            return true;
        }

        /** The place behind a name; -1 when it is none. */
        private static int nameStop(byte[] answer, int n, int from) {
            int at = from;
            for (int left = n - from; left > 0 && at < n; left--) {
                int length = answer[at] & 255;
                if (length == 0) {
                    return at + 1;
                }
                if (length >= 192) {
                    return at + 2;
                }
                if (length > 63) {
                    return -1;
                }
                at += 1 + length;
            }
            return -1;
        }

        private void keep(byte[] packet, int keyLength, int end) {
            questionLength = keyLength;
            System.arraycopy(packet, HEAD_BYTES, question, 0, keyLength);
            int place = cachedPlace();
            if (place < 0) {
                if (cacheCount >= MOST_VALUES) {
                    dropSoonest();
                }
                place = cacheCount;
                cacheCount++;
            }
            System.arraycopy(question, 0, keys[place], 0, keyLength);
            keyLengths[place] = keyLength;
            values[place] = answerBits;
            ends[place] = end;
        }

        private void dropSoonest() {
            int gone = 0;
            for (int i = 1; i < cacheCount; i++) {
                if (ends[i] < ends[gone]) {
                    gone = i;
                }
            }
            byte[] key = keys[gone];
            for (int i = gone + 1; i < cacheCount; i++) {
                keys[i - 1] = keys[i];
                keyLengths[i - 1] = keyLengths[i];
                values[i - 1] = values[i];
                ends[i - 1] = ends[i];
            }
            cacheCount--;
            keys[cacheCount] = key;
        }
    }

    private static final class Greylist {
        static final int MOST_TRIPLETS = 24;
        static final int LONGEST = 86400;
        static final int WINDOW = 14400;

        private final long[] digests = new long[MOST_TRIPLETS];
        private final int[] firsts = new int[MOST_TRIPLETS];
        private final int[] lasts = new int[MOST_TRIPLETS];
        private final boolean[] passed = new boolean[MOST_TRIPLETS];
        private final int[] networks = new int[MOST_TRIPLETS];
        int count;

        boolean passes(long digest, int network, int delay, int now) {
            for (int i = count - 1; i >= 0; i--) {
                if (now - lasts[i] > LONGEST) {
                    drop(i);
                }
            }
            int known = 0;
            int at = -1;
            for (int i = 0; i < count; i++) {
                if (networks[i] == network && passed[i]) {
                    known++;
                }
                if (digests[i] == digest) {
                    at = i;
                }
            }
            if (known >= 3) {
                return true;
            }
            if (at < 0) {
                add(digest, network, now);
                return false;
            }
            lasts[at] = now;
            int age = now - firsts[at];
            if (age < delay) {
                return false;
            }
            if (!passed[at] && age > WINDOW) {
                firsts[at] = now;
                return false;
            }
            passed[at] = true;
            return true;
        }

        private void add(long digest, int network, int now) {
            if (count >= MOST_TRIPLETS) {
                int oldest = 0;
                for (int i = 1; i < count; i++) {
                    if (lasts[i] < lasts[oldest]) {
                        oldest = i;
                    }
                }
                drop(oldest);
            }
            digests[count] = digest;
            firsts[count] = now;
            lasts[count] = now;
            passed[count] = false;
            networks[count] = network;
            count++;
        }

        private void drop(int gone) {
            for (int i = gone + 1; i < count; i++) {
                digests[i - 1] = digests[i];
                firsts[i - 1] = firsts[i];
                lasts[i - 1] = lasts[i];
                passed[i - 1] = passed[i];
                networks[i - 1] = networks[i];
            }
            count--;
        }
    }
}
