import java.lang.reflect.InvocationTargetException;
import java.lang.reflect.Method;
import java.util.Arrays;
import java.util.LinkedHashMap;
import java.util.Map;
import java.util.Random;

/** Runs of calls, the same on ChantryRolls and on Oracle: every answer must be alike, and none may throw. */
final class AgainstOracleTest {
    private static final Checks c = new Checks("AgainstOracleTest");
    private static final int RUNS = 480;
    private static final int CALLS = 512;
    private static final int MOST_SHOWN = 20;

    /** What each call takes, by letters (see number()); behind a blank how often it is drawn. */
    private static final String[] CALLS_TOLD = {"sheet s l z 2", "set s i v 6", "copy s i s i n 2", "drop s 1",
        "deeds 1", "fault 1", "told p a 2", "feast d r 3", "count p d w 8", "vow e o 1", "sick e d d 1",
        "say p d h 10", "lines s i t 3", "good g 6", "join p p d 4", "split p d 2", "house u b v 4",
        "repair u y v 2", "empty u d d 2", "rent u y 4", "comes p y b 6", "fails p 3", "price w v 2", "spent y 3",
        "vacant p d s i f 3", "turn p d 4", "act d k k b 1", "taken p 2", "pension e d 3", "bid u k v 2", "sold u d 3",
        "dawn m d q 3", "day d 3", "kind p 3", "as p f 3", "ask p b 5", "trace j 5", "all x 5", "status 4"};

    /** Those that fill what there is room for; behind a blank how often each is drawn in a run that fills. */
    private static final String[] FILLING = {"feast d r 4", "sick e d d 3", "say p d h 6", "lines s i t 1", "join p p d 4",
        "split p d 4", "repair u y v 3", "empty u d d 3", "act d k k b 1", "bid u k v 3", "vacant p d s i f 2"};

    /** In place of a last day: days are drawn from those next to the ends of years, and to the first and last day. */
    private static final int EDGES = -1;
    private static final int[] EDGE_DAYS = {0, 1, 2, 358, 359, 360, 361, 719, 720, 721, 9719, 9720, 9721, 9997, 9998,
        9999, 9999, 0, -1, 10000};

    private static int shown = 0;

    public static void main(String[] args) throws ReflectiveOperationException {
        Map<String, Method> ours = methods(ChantryRolls.class);
        Map<String, Method> theirs = methods(Oracle.class);
        for (int run = 0; run < RUNS; run++) {
            run(run, ours, theirs);
        }
        c.finish();
    }

    private static Map<String, Method> methods(Class<?> type) {
        Map<String, Method> methods = new LinkedHashMap<>();
        for (Method method : ChantryRolls.class.getDeclaredMethods()) {
            if (java.lang.reflect.Modifier.isPublic(method.getModifiers())) {
                try {
                    methods.put(method.getName(), type.getDeclaredMethod(method.getName(), method.getParameterTypes()));
                } catch (NoSuchMethodException e) {
                    throw new IllegalStateException(e);
                }
            }
        }
        return methods;
    }

    private static void run(int run, Map<String, Method> ours, Map<String, Method> theirs)
            throws ReflectiveOperationException {
        Random random = new Random(run);
        ChantryRolls x = new ChantryRolls();
        Oracle y = new Oracle();
        // Narrow runs keep days and sheets few, so that calls meet; wide ones go to the edges.
        int lastDay = new int[] {12, 60, 800, 9999, EDGES}[run % 5];
        boolean filling = run % 3 == 0;
        for (int call = 0; call < CALLS; call++) {
            if (call < 3 || random.nextInt(60) == 0) {
                String text = text(random, lastDay);
                int answer = Checks.feed(x, text);
                for (int at = 0; at < text.length(); at += 8) {
                    int n = Math.min(8, text.length() - at);
                    long w = 0;
                    for (int i = 0; i < n; i++) {
                        w = w << 8 | text.charAt(at + i) & 255;
                    }
                    int due = y.feed(w, n);
                    if (at + 8 >= text.length()) {
                        same(run, call, "feed of " + text, answer, due);
                    }
                }
                same(run, call, "deeds of " + text, x.deeds(), y.deeds());
                same(run, call, "fault of " + text, x.fault(), y.fault());
            }
            String[] told = draw(random, filling && random.nextBoolean() ? FILLING : CALLS_TOLD).split(" ");
            Object[] given = new Object[told.length - 2];
            for (int i = 0; i < given.length; i++) {
                given[i] = number(random, told[i + 1].charAt(0), lastDay);
            }
            if (told[0].equals("sick") || told[0].equals("empty") || told[0].equals("act")) {
                orderMostly(random, given);
            }
            try {
                int got = (Integer) ours.get(told[0]).invoke(x, given);
                int due = (Integer) theirs.get(told[0]).invoke(y, given);
                same(run, call, told[0] + Arrays.toString(given), got, due);
            } catch (InvocationTargetException e) {
                e.getCause().printStackTrace(System.out);
                same(run, call, told[0] + Arrays.toString(given) + " threw", 1, 0);
            }
        }
    }

    private static void same(int run, int call, String what, int got, int due) {
        if (got == due) {
            c.due(what, got, due);
        } else if (shown < MOST_SHOWN) {
            shown++;
            c.due("run " + run + ", call " + call + ", " + what, got, due);
        }
    }

    private static String draw(Random random, String[] calls) {
        int sum = 0;
        for (String told : calls) {
            sum += Integer.parseInt(told.substring(told.lastIndexOf(' ') + 1));
        }
        int at = random.nextInt(sum);
        for (String told : calls) {
            at -= Integer.parseInt(told.substring(told.lastIndexOf(' ') + 1));
            if (at < 0) {
                return told;
            }
        }
        return calls[0];
    }

    private static int day(Random random, int lastDay) {
        return lastDay == EDGES ? EDGE_DAYS[random.nextInt(EDGE_DAYS.length)] : random.nextInt(lastDay + 1);
    }

    private static int year(Random random, int lastDay) {
        int[] edges = {0, 1, 2, 26, 27};
        return lastDay == EDGES ? edges[random.nextInt(edges.length)] : random.nextInt(lastDay / 360 + 2);
    }

    /** A span is drawn the right way round nine times of ten; an act's souls are the second and the third. */
    private static void orderMostly(Random random, Object[] given) {
        int a = (Integer) given[1];
        int b = (Integer) given[2];
        if (random.nextInt(10) != 0 && a > b) {
            given[1] = b;
            given[2] = a;
        }
    }

    private static int number(Random random, char letter, int lastDay) {
        if (random.nextInt(80) == 0) {
            int[] odd = {-1, Integer.MIN_VALUE, Integer.MAX_VALUE, 12, 28, 61, 100, 101, 10000, 10001, -1000000};
            return odd[random.nextInt(odd.length)];
        }
        switch (letter) {
            case 's':
                return random.nextInt(random.nextInt(10) == 0 ? 9 : 3);
            case 'l':
                return random.nextInt(10) == 0 ? random.nextInt(4) - 1 : 2;
            case 'z':
                return random.nextInt(4) == 0 ? random.nextInt(64) - 2 : 60;
            case 'i':
                return random.nextInt(random.nextInt(3) == 0 ? 62 : 12) - (random.nextInt(20) == 0 ? 1 : 0);
            case 'n':
                return random.nextInt(40) - 1;
            case 'v':
                return value(random, lastDay);
            case 'a':
                return random.nextInt(12);
            case 'r':
                return random.nextInt(9) == 0 ? random.nextInt(4) : 1 + random.nextInt(2);
            case 'd':
                return day(random, lastDay);
            case 'w':
                return random.nextInt(random.nextInt(9) == 0 ? 4 : 3);
            case 'e':
                return random.nextInt(random.nextInt(9) == 0 ? 9 : 4);
            case 'o':
                return random.nextInt(9) == 0 ? random.nextInt(5) : 1 + random.nextInt(3);
            case 'h':
                return random.nextInt(random.nextInt(9) == 0 ? 6 : 5);
            case 't':
                return random.nextInt(random.nextInt(5) == 0 ? 23 : 5);
            case 'g':
                return random.nextInt(62);
            case 'u':
                return random.nextInt(random.nextInt(9) == 0 ? 7 : 3);
            case 'b':
                return random.nextInt(random.nextInt(9) == 0 ? 3 : 2);
            case 'y':
                return random.nextInt(9) == 0 ? random.nextInt(29) : year(random, lastDay);
            case 'f':
                return random.nextInt(6);
            case 'k':
                return random.nextInt(12);
            case 'm':
                return random.nextInt(9) == 0 ? random.nextInt(4100) : random.nextInt(128);
            case 'q':
                return random.nextInt(3) == 0 ? Checks.NONE : random.nextInt(13);
            case 'j':
                return random.nextInt(6);
            case 'x':
                return random.nextInt(10);
            default:
                return random.nextInt(random.nextInt(9) == 0 ? 13 : 7);
        }
    }

    private static int value(Random random, int lastDay) {
        int[] most = {3, 10, 100, 400, 10001, 100001};
        if (random.nextInt(20) == 0) {
            return random.nextInt();
        }
        int at = random.nextInt(most.length + 1);
        return at == most.length ? day(random, lastDay) : random.nextInt(most[at]);
    }

    /** Mostly a text that can be read, at times with one byte, or one number, that is off. */
    private static String text(Random random, int lastDay) {
        String[] words = {"soul", "altar", "priest", "each", "from", "till", "house", "pays", "bread", "candle"};
        int longest = lastDay == EDGES ? 360 : Math.min(360, lastDay);
        int[] most = {12, 4, 4, longest, 1, 1, 3, 101, 5, 5};
        StringBuilder text = new StringBuilder();
        for (int deeds = 1 + random.nextInt(4); deeds > 0; deeds--) {
            text.append(random.nextInt(3) == 0 ? "obit" : "mass");
            for (int terms = 1 + random.nextInt(6); terms > 0; terms--) {
                int term = random.nextInt(words.length);
                int v = random.nextInt(40) == 0 ? random.nextInt(100001) : random.nextInt(most[term]);
                v = term == 3 && random.nextInt(20) != 0 ? v + 1 : v;
                v = term == 4 || term == 5 ? Math.max(0, day(random, lastDay)) : v;
                text.append(random.nextInt(8) == 0 ? "\n " : " ").append(words[term]);
                text.append(random.nextInt(8) == 0 ? "" : " ").append(v);
            }
            text.append(random.nextInt(8) == 0 ? " ;\n" : ";");
        }
        if (random.nextInt(5) == 0) {
            String bytes = "; 5az\n\t-M" + (char) 0 + (char) 255;
            text.setCharAt(random.nextInt(text.length()), bytes.charAt(random.nextInt(bytes.length())));
        }
        return text.toString();
    }
}
