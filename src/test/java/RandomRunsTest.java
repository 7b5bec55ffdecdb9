import java.util.ArrayList;
import java.util.List;
import java.util.Random;

/** Long runs of drawn calls, each answered by the class and by the oracle, a second reading of the document. */
public final class RandomRunsTest {
    private static final String[] NAMES = {"a", "b", "c", "d", "e", "f", "g", "ann", "cost", "age", "longname", "m",
        "n", "o", "p", "q", "r", "s", "t", "u", "high", "knowers"};
    private static final String[] ODD = {"person", "rank", "tax", "secret", "of", "costs", "on", "by", "ear", "clash",
        "worth", "tell", "pay", "rise", "quarter", "plain", "gossip", "deaf", "priest", "true", "false", "not", "and",
        "or", "a", "b", "zz", "ninechars", "0", "1", "10", "11", "99", "100", "999", "1000", "9999", "12345", "(", ")",
        "<", "=", "+", "-", "*", ";", "!", "A", "\n", "cost", "knowers", "1a", "a1"};

    private final Random random;
    private PaidSecrets x = new PaidSecrets();
    private Oracle oracle = new Oracle();
    private final List<String> log = new ArrayList<>();
    private List<String> people = new ArrayList<>();
    private List<String> secrets = new ArrayList<>();

    private RandomRunsTest(long seed) {
        random = new Random(seed);
    }

    public static void main(String[] args) {
        int runs = args.length > 0 ? Integer.parseInt(args[0]) : 1500;
        long from = args.length > 1 ? Long.parseLong(args[1]) : 0;
        for (int i = 0; i < runs && !Check.failed(); i++) {
            RandomRunsTest run = new RandomRunsTest(from + i);
            run.run();
            if (Check.failed()) {
                System.out.println("in run " + (from + i) + ":");
                run.log.forEach(System.out::println);
            }
        }
        Check.end();
    }

    private void run() {
        int calls = 0;
        while (calls < 400 && !Check.failed()) {
            if (random.nextInt(60) == 0 || calls == 0) {
                calls += same(townText(), true);
            } else if (random.nextInt(40) == 0) {
                calls += same(gossipText(), false);
            } else {
                call(random.nextInt(26));
                calls++;
            }
        }
    }

    private int same(String text, boolean isTown) {
        String mended = random.nextInt(3) == 0 ? spoilt(text) : text;
        int calls = 1;
        for (int i = 0; i < mended.length(); i += 24) {
            long a = Check.word(mended, i);
            long b = Check.word(mended, i + 8);
            long c = Check.word(mended, i + 16);
            due("feed", x.feed(a, b, c), oracle.feed(a, b, c));
            calls++;
        }
        if (isTown) {
            due("town of " + mended, x.town(), oracle.town());
        } else {
            due("gossip of " + mended, x.gossip(), oracle.gossip());
        }
        return calls;
    }

    private void due(String call, long got, long want) {
        log.add(call + " = " + got);
        Check.due(call, got, want);
    }

    private void due(String call, boolean got, boolean want) {
        due(call, got ? 1 : 0, want ? 1 : 0);
    }

    private int number(int most) {
        int[] wild = {-1, -2, most, most + 1, 31, 32, 64, Integer.MIN_VALUE, Integer.MAX_VALUE, random.nextInt()};
        return random.nextInt(15) == 0 ? wild[random.nextInt(wild.length)] : random.nextInt(most);
    }

    private int one() {
        return number(Math.max(1, people.size()));
    }

    private int thing() {
        return number(Math.max(1, secrets.size()));
    }

    private void call(int which) {
        int p = one();
        int q = one();
        int s = thing();
        int what = number(13);
        int bits = random.nextInt(3) == 0 ? number(1100) : 1 << (thing() & 15) | 1 << (thing() & 15);
        boolean flag = random.nextBoolean();
        String args = "(" + p + " " + q + " " + s + " " + what + " " + bits + " " + flag + ")";
        switch (which) {
            case 0 -> due("person" + args, Check.person(x, p, what), oracle.person(p, what));
            case 1 -> due("secret" + args, x.secret(s, what), oracle.secret(s, what));
            case 2 -> due("aware" + args, x.aware(p, q, s), oracle.aware(p, q, s));
            case 3 -> due("ear" + args, x.ear(p, q), oracle.ear(p, q));
            case 4, 5, 6 -> tellDue(q, s);
            case 7 -> due("pay" + args, x.pay(p, bits), oracle.pay(p, bits));
            case 8 -> due("rise" + args, x.rise(p), oracle.rise(p));
            case 9 -> due("quarter", x.quarter(), oracle.quarter());
            case 10, 11 -> lendDue(p, s, args);
            case 12 -> due("undo", x.undo(), oracle.undo());
            case 13 -> due("judged " + what, x.judged(what % 4), oracle.judged(what % 4));
            case 14 -> due("least" + args, x.least(p), oracle.least(p));
            case 15 -> due("payers", x.payers(), oracle.payers());
            case 16 -> plotDue(p, q, what);
            case 17 -> due("see" + args, x.see(s, flag), oracle.see(s, flag));
            case 18 -> due("leaks " + what, x.leaks(what % 5), oracle.leaks(what % 5));
            case 19 -> due("lies " + what, x.lies(what % 5), oracle.lies(what % 5));
            case 20 -> nightsDue(s);
            case 21 -> due("settle", x.settle(), oracle.settle());
            case 22 -> restsDue(what);
            case 23 -> yearsDue(what);
            case 24 -> markDue(what % 5, random.nextInt(4) == 0);
            default -> due("count " + what, x.count(what), oracle.count(what));
        }
    }

    /** Mostly by one who knows it: of others hardly one could tell. */
    private void tellDue(int q, int s) {
        int p = one();
        for (int i = 0; i < 6 && random.nextInt(8) > 0 && (x.secret(s, 4) >> (p & 15) & 1) == 0; i++) {
            p = one();
        }
        due("tell " + p + " " + q + " " + s, x.tell(p, q, s), oracle.tell(p, q, s));
    }

    private void markDue(int mark, boolean back) {
        due("mark " + mark + " " + back, x.mark(mark, back), oracle.mark(mark, back));
    }

    private void lendDue(int p, int s, String args) {
        int q = random.nextInt(5) == 0 ? one() : x.secret(s, 1);
        due("lend" + args + " " + q, x.lend(p, q, s), oracle.lend(p, q, s));
    }

    private void plotDue(int p, int q, int what) {
        int many = number(4);
        due("plot " + p + " " + q + " " + many + " " + what, Check.plot(x, p, q, many, what % 5),
            oracle.plot(p, q, many, what % 5));
    }

    private void nightsDue(int s) {
        int nights = random.nextInt(8) == 0 ? number(33) : random.nextInt(5);
        due("mean " + s + " " + nights, x.mean(s, nights), oracle.mean(s, nights));
        due("holds " + s + " " + nights, x.holds(s, nights), oracle.holds(s, nights));
    }

    private void restsDue(int what) {
        int guests = random.nextInt(64);
        int which = random.nextInt(3) == 0 ? -1 : what % 4;
        due("rests " + guests + " " + which, x.rests(guests, which), oracle.rests(guests, which));
    }

    private void yearsDue(int what) {
        int seed = random.nextInt(10) == 0 ? number(10003) : random.nextInt(10000);
        int nights = random.nextInt(10) == 0 ? number(103) : random.nextInt(35);
        due("years " + seed + " " + nights + " " + what, x.years(seed, nights, what % 4),
            oracle.years(seed, nights, what % 4));
    }

    private String pick(List<String> from) {
        return from.isEmpty() || random.nextInt(150) == 0 ? NAMES[random.nextInt(NAMES.length)]
            : from.get(random.nextInt(from.size()));
    }

    private String some(List<String> from) {
        List<String> left = new ArrayList<>(from);
        StringBuilder text = new StringBuilder(left.isEmpty() ? "a" : "");
        int many = 1 + random.nextInt(3);
        for (int i = 0; i < many && !left.isEmpty(); i++) {
            text.append(' ').append(left.remove(random.nextInt(left.size())));
        }
        return text.toString();
    }

    private String townText() {
        List<String> names = new ArrayList<>(List.of(NAMES));
        people = new ArrayList<>();
        secrets = new ArrayList<>();
        StringBuilder text = new StringBuilder();
        int persons = random.nextInt(40) == 0 ? 7 : random.nextInt(10) == 0 ? random.nextInt(7) : 3 + random.nextInt(4);
        String[] kinds = {"plain", "plain", "gossip", "deaf", "priest", "plain", "gossip"};
        for (int i = 0; i < persons; i++) {
            people.add(names.remove(random.nextInt(names.size())));
            text.append("person ").append(people.get(i)).append(' ').append(kinds[random.nextInt(7)]).append(" rank ")
                .append(random.nextInt(10)).append(" tax ").append(random.nextInt(4) == 0 ? 0 : random.nextInt(90))
                .append(';');
        }
        int things = random.nextInt(40) == 0 ? 11 : random.nextInt(11);
        for (int i = 0; i < things && text.length() < 800; i++) {
            String name = names.remove(random.nextInt(names.size()));
            text.append("secret ").append(name).append(random.nextBoolean() ? " true of " : " false of ")
                .append(pick(people)).append(" costs ").append(1 + random.nextInt(99));
            if (random.nextInt(3) == 0 && !secrets.isEmpty()) {
                text.append(" on ").append(pick(secrets));
            }
            text.append(" by ").append(some(people)).append(';');
            secrets.add(name);
        }
        addPairs(text);
        if (random.nextInt(3) > 0) {
            text.append("worth ").append(either(0)).append(';');
        }
        return text.toString();
    }

    private void addPairs(StringBuilder text) {
        for (String from : people) {
            for (String to : people) {
                if (!from.equals(to) && random.nextInt(3) == 0 && text.length() < 900) {
                    text.append("ear ").append(from).append(' ').append(to).append(' ').append(random.nextInt(11))
                        .append(random.nextBoolean() ? ";" : " ;\n");
                }
            }
        }
        for (int i = 0; i < secrets.size(); i++) {
            for (int j = 0; j < i; j++) {
                if (random.nextInt(6) == 0 && text.length() < 960) {
                    text.append("clash ").append(secrets.get(i)).append(' ').append(secrets.get(j)).append(';');
                }
            }
        }
    }

    private String either(int depth) {
        StringBuilder text = new StringBuilder(test(depth));
        while (random.nextInt(5) == 0) {
            text.append(random.nextBoolean() ? " and " : " or ").append(test(depth));
        }
        return text.toString();
    }

    private String test(int depth) {
        return random.nextInt(4) > 0 ? sum(depth) : sum(depth) + (random.nextBoolean() ? "<" : "=") + sum(depth);
    }

    private String sum(int depth) {
        StringBuilder text = new StringBuilder(product(depth));
        while (random.nextInt(3) == 0) {
            text.append(random.nextBoolean() ? "+" : "-").append(product(depth));
        }
        return text.toString();
    }

    private String product(int depth) {
        return random.nextInt(3) > 0 ? part(depth) : part(depth) + "*" + part(depth);
    }

    private String part(int depth) {
        int which = random.nextInt(depth > 5 ? 5 : 8);
        return switch (which) {
            case 0 -> " cost ";
            case 1 -> " knowers ";
            case 2 -> " age ";
            case 3 -> " high ";
            case 4 -> "" + (random.nextInt(6) == 0 ? random.nextInt(10000) : random.nextInt(30));
            case 5 -> " not " + part(depth + 1);
            default -> "(" + either(depth + 1) + ")";
        };
    }

    private String gossipText() {
        StringBuilder text = new StringBuilder();
        int many = random.nextInt(15) == 0 ? 31 : random.nextInt(25);
        for (int i = 0; i < many; i++) {
            String who = pick(people);
            switch (random.nextInt(6)) {
                case 0 -> text.append("pay ").append(who).append(' ').append(some(secrets)).append(';');
                case 1 -> text.append("rise ").append(who).append(';');
                case 2 -> text.append("quarter;");
                default -> text.append(tellText(who));
            }
        }
        return text.toString();
    }

    private String tellText(String who) {
        String whom = pick(people);
        for (int i = 0; i < 9 && whom.equals(who); i++) {
            whom = pick(people);
        }
        return "tell " + who + " " + whom + " " + pick(secrets) + ";";
    }

    /** One token or sign more, less or other than it was. */
    private String spoilt(String text) {
        String odd = ODD[random.nextInt(ODD.length)];
        if (text.isEmpty()) {
            return odd;
        }
        int place = random.nextInt(text.length());
        int end = Math.min(text.length(), place + 1 + random.nextInt(5));
        return switch (random.nextInt(5)) {
            case 0 -> text.substring(0, place);
            case 1 -> text.substring(0, place) + " " + odd + " " + text.substring(place);
            case 2 -> text.substring(0, place) + text.substring(end);
            case 3 -> text + odd;
            default -> swapWord(text, place, odd);
        };
    }

    private static String swapWord(String text, int place, String odd) {
        int from = place;
        int to = place;
        while (from > 0 && Character.isLetterOrDigit(text.charAt(from - 1))) {
            from--;
        }
        while (to < text.length() && Character.isLetterOrDigit(text.charAt(to))) {
            to++;
        }
        return text.substring(0, from) + odd + text.substring(Math.max(to, from + 1));
    }
}
