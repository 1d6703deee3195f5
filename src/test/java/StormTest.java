import java.lang.reflect.InvocationTargetException;
import java.lang.reflect.Method;
import java.lang.reflect.Modifier;
import java.util.ArrayList;
import java.util.Arrays;
import java.util.Comparator;
import java.util.List;
import java.util.Random;

/** Any calls in any order: none throws, all end, and the same calls give the same answers. Also: the face. */
public final class StormTest {
    private static final String SIGNS = "()[]{}*+?|\\.^$<>&=;:\"-/ \0";
    private static final int[] EDGES = {0, 1, -1, 2, 3, 4, 5, 12, 13, 14, 20, 100, 4000, 8191, 8192, 86400, 86401, 100000000, Integer.MAX_VALUE, Integer.MIN_VALUE};

    public static void main(String[] args) throws Exception {
        theFace();
        for (int seed = 0; seed < 150; seed++) {
            Desk.due("answers of storm " + seed, storm(seed), storm(seed));
        }
        for (int seed = 0; seed < 400; seed++) {
            dialogue(seed);
        }
        Desk.end();
    }

    private static void theFace() {
        List<String> names = new ArrayList<>();
        for (Method method : MailSieve.class.getDeclaredMethods()) {
            if (!Modifier.isPrivate(method.getModifiers())) {
                names.add(method.getName() + method.getParameterCount());
                Desk.due(method + " is public", Modifier.isPublic(method.getModifiers()), true);
            }
        }
        names.sort(Comparator.naturalOrder());
        Desk.due("the methods", String.join(" ", names), "answer1 clear1 compact0 crash1 entry2 expire1 feed5 find3 give2 held2 indicator1 journal1 learn2 line1 load0 "
            + "open1 order1 output2 query2 session2 state1 sync0 text2 tick1");
        Desk.due("it is final", Modifier.isFinal(MailSieve.class.getModifiers()), true);
        Desk.due("fields that are seen", MailSieve.class.getFields().length, 0);
        Desk.due("constructors", MailSieve.class.getDeclaredConstructors().length, 1);
    }

    private static Object argument(Class<?> type, Random random) {
        if (type == boolean.class) {
            return random.nextBoolean();
        }
        int n = random.nextInt(3) == 0 ? random.nextInt() : random.nextInt(2) == 0 ? random.nextInt(24) : EDGES[random.nextInt(EDGES.length)];
        return type == long.class ? (Object) (long) n : (Object) n;
    }

    /** 512 calls with any arguments. */
    private static String storm(int seed) throws IllegalAccessException {
        Random random = new Random(seed);
        Method[] methods = Arrays.stream(MailSieve.class.getDeclaredMethods()).filter(m -> Modifier.isPublic(m.getModifiers()))
            .sorted(Comparator.comparing(Method::getName)).toArray(Method[]::new);
        MailSieve x = new MailSieve();
        StringBuilder answers = new StringBuilder();
        for (int i = 0; i < 512; i++) {
            Method method = methods[random.nextInt(methods.length)];
            Object[] arguments = Arrays.stream(method.getParameterTypes()).map(type -> argument(type, random)).toArray();
            try {
                answers.append(method.invoke(x, arguments)).append(' ');
            } catch (InvocationTargetException e) {
                Desk.due(method.getName() + Arrays.toString(arguments), e.getCause(), "no exception");
            }
        }
        return answers.toString();
    }

    /** Lines, packets and answers that are nearly right, with a byte changed here and there. */
    private static void dialogue(int seed) {
        Random random = new Random(seed);
        String[] lines = {"header A subject /(a|[b-d]+){2,5}\\b$/i", "body B /^.*x{3}/", "raw C /[^\\w\\s]/", "uri D /./", "attach E exe", "bayes F 1 999", "listed G 0 3", "meta H !(A+B>1)||C&&D==0",
            "count I parts chars lines heads rcpts uris caps size + - * < = & |", "score A -1.5", "priority H -3", "zone bl.example", "grey 5", "limits 0 1 2", "exists J x", "clear"};
        String body = "--q\r\nContent-Type: text/html; charset=\"utf-8\"\r\nContent-Transfer-Encoding: quoted-printable\r\n\r\n<a href=3D\"http://x.y/\">=C3=A9 &amp; &#8364;<br>\r\n"
            + "--q\r\nContent-Type: multipart/x; boundary=r\r\n\r\n--r\r\nContent-Transfer-Encoding: base64\r\n\r\naHR0cDovL2EuYg==\r\n--r--\r\n--q\r\nContent-Type: a/b; name=\"c.exe\"\r\n\r\n--q--\r\n";
        String session = Desk.packet('O', Desk.number(6) + Desk.number(0x31) + Desk.number(0)) + Desk.client("10.0.0.1")
            + Desk.message(body, "Subject", "=?utf-8?Q?a=20b?= =?utf-8?B?w6k=?= ccc", "Content-Type", "multipart/x; boundary=q");
        String told = "";
        try {
            Desk desk = new Desk();
            for (int i = 0; i < 25; i++) {
                told = changed(lines[random.nextInt(lines.length)], random);
                desk.line(told);
                desk.sieve.load();
            }
            for (int i = 0; i < 6; i++) {
                desk.sieve.open(i % 2);
                told = changed(session, random);
                desk.give(i % 2, told);
                desk.sieve.learn(i % 2, random.nextBoolean());
                StringBuilder query = new StringBuilder();
                for (int k = 0; desk.sieve.query(0, k) >= 0; k++) {
                    query.append((char) (k == 2 ? 128 : k == 7 ? 1 : desk.sieve.query(0, k)));
                }
                told = changed(query + "\u00c0\u000c\0\u0001\0\u0001\0\0\0\u0009\0\u0004\u007f\0\0\u0002", random);
                desk.answer(told);
                desk.sieve.tick(1 + random.nextInt(6));
                desk.sieve.crash(random.nextInt(30));
            }
            Desk.due("dialogue " + seed, true, true);
        } catch (RuntimeException e) {
            Desk.due("dialogue " + seed + " with " + told, e, "no exception");
        }
    }

    private static String changed(String text, Random random) {
        StringBuilder all = new StringBuilder(text);
        for (int k = random.nextInt(3); k > 0 && all.length() > 0; k--) {
            int at = random.nextInt(all.length());
            switch (random.nextInt(3)) {
                case 0: all.setCharAt(at, (char) random.nextInt(256)); break;
                case 1: all.deleteCharAt(at); break;
                default: all.insert(at, SIGNS.charAt(random.nextInt(SIGNS.length()))); break;
            }
        }
        return all.toString();
    }
}
