/** Towns as full as can be, with every question asked for every argument near the edges, beside the oracle. */
public final class SweepTest {
    private static final String[] KINDS = {"plain", "gossip", "plain", "deaf", "gossip", "priest"};
    private final PaidSecrets x = new PaidSecrets();
    private final Oracle oracle = new Oracle();
    private final String town;

    private SweepTest(String town) {
        this.town = town;
    }

    public static void main(String[] args) {
        String law = "worth cost*3-knowers*knowers*8+age*5-high+20*(knowers<3 or age=2 and not high=4);";
        for (String text : new String[] {full(false) + ears(3), full(true) + ears(5) + law, full(true) + law,
            full(false).replace("gossip", "priest").replace("plain", "deaf"), people(), "", taxes()}) {
            new SweepTest(text).sweep();
        }
        Check.end();
    }

    private static String people() {
        StringBuilder text = new StringBuilder();
        for (int i = 0; i < 6; i++) {
            text.append("person ").append((char) ('a' + i)).append(' ').append(KINDS[i]).append(" rank ")
                .append((i * 7 + 2) % 10).append(" tax ").append(i == 3 ? 0 : i == 4 ? 1 : 9 * i + 5).append(';');
        }
        return text.toString();
    }

    private static String full(boolean chained) {
        StringBuilder text = new StringBuilder(people());
        for (int i = 0; i < 10; i++) {
            text.append("secret ").append((char) ('p' + i)).append(i % 3 == 0 ? " false" : " true").append(" of ")
                .append((char) ('a' + i % 6)).append(" costs ").append(i * 37 % 99 + 1);
            if (chained && i % 4 > 0) {
                text.append(" on ").append((char) ('p' + i - 1));
            }
            text.append(" by ").append((char) ('a' + (i + 5) % 6)).append(i % 2 == 0 ? " " + (char) ('a' + i % 4) : "")
                .append(';');
        }
        for (int i = 1; i < 10; i += 2) {
            text.append("clash ").append((char) ('p' + i)).append(' ').append((char) ('p' + i / 2)).append(';');
        }
        return text.toString();
    }

    private static String ears(int step) {
        StringBuilder text = new StringBuilder();
        for (int i = 0; i < 36; i += step) {
            if (i / 6 != i % 6) {
                text.append("ear ").append((char) ('a' + i / 6)).append(' ').append((char) ('a' + i % 6)).append(' ')
                    .append(i % 11).append(';');
            }
        }
        return text.toString();
    }

    /** One without a tax shares a secret with one who needs it; a tax of 1; all thirty ears. */
    private static String taxes() {
        StringBuilder text = new StringBuilder("person a plain rank 0 tax 0;person b plain rank 0 tax 1;"
            + "person c plain rank 0 tax 9;person d plain rank 0 tax 0;person e plain rank 0 tax 1;"
            + "person f plain rank 0 tax 1;secret s true of c costs 90 by a b;secret t true of d costs 9 by c;");
        for (int i = 0; i < 36; i++) {
            if (i / 6 != i % 6) {
                text.append("ear ").append((char) ('a' + i / 6)).append(' ').append((char) ('a' + i % 6)).append(" 0;");
            }
        }
        return text.toString();
    }

    private void due(String call, long got, long want) {
        Check.due(call + " in " + town, got, want);
    }

    private void due(String call, boolean got, boolean want) {
        due(call, got ? 1 : 0, want ? 1 : 0);
    }

    private void sweep() {
        for (int i = 0; i < town.length(); i += 24) {
            long a = Check.word(town, i);
            long b = Check.word(town, i + 8);
            long c = Check.word(town, i + 16);
            due("feed", x.feed(a, b, c), oracle.feed(a, b, c));
        }
        due("the oracle's town", oracle.town(), 0);
        due("town", x.town(), 0);
        for (int round = 0; round < 4; round++) {
            lookAtAll();
            searchAll();
            deeds(round);
        }
        lookAtAll();
        for (int i = 0; i < 20; i++) {
            due("undo " + i, x.undo(), oracle.undo());
            due("worths", x.count(5), oracle.count(5));
        }
        lookAtAll();
    }

    private void lookAtAll() {
        for (int p = -1; p < 8; p++) {
            for (int what = -1; what < 12; what++) {
                due("person " + p + " " + what, Check.person(x, p, what), oracle.person(p, what));
                due("count " + what, x.count(what), oracle.count(what));
            }
            for (int q = -1; q < 8; q++) {
                due("ear " + p + " " + q, x.ear(p, q), oracle.ear(p, q));
                for (int s = -1; s < 12; s++) {
                    due("aware " + p + " " + q + " " + s, x.aware(p, q, s), oracle.aware(p, q, s));
                }
            }
        }
        for (int s = -1; s < 12; s++) {
            for (int what = -1; what < 12; what++) {
                due("secret " + s + " " + what, x.secret(s, what), oracle.secret(s, what));
            }
        }
    }

    private void searchAll() {
        for (int p = -1; p < 7; p++) {
            due("least " + p, x.least(p), oracle.least(p));
            for (int q = -1; q < 7; q++) {
                for (int what = 0; what < 4; what++) {
                    int many = (p + q + what & 3) == 0 ? 2 : 1;
                    due("plot " + p + " " + q + " " + many + " " + what, Check.plot(x, p, q, many, what),
                        oracle.plot(p, q, many, what));
                }
            }
        }
        due("payers", x.payers(), oracle.payers());
        due("settle", x.settle(), oracle.settle());
        for (int what = -1; what < 5; what++) {
            due("leaks " + what, x.leaks(what), oracle.leaks(what));
            due("lies " + what, x.lies(what), oracle.lies(what));
            due("judged " + what, x.judged(what), oracle.judged(what));
            for (int people = -1; people < 66; people++) {
                due("rests " + people + " " + what, x.rests(people, what), oracle.rests(people, what));
            }
            for (int nights = 0; nights < 102; nights += 17) {
                due("years " + nights + " " + what, x.years(nights * 99, nights, what),
                    oracle.years(nights * 99, nights, what));
            }
        }
        for (int s = 0; s < 11; s++) {
            for (int nights = -1; nights < 32; nights += s < 2 ? 1 : 5) {
                due("mean " + s + " " + nights, x.mean(s, nights), oracle.mean(s, nights));
                due("holds " + s + " " + nights, x.holds(s, nights), oracle.holds(s, nights));
            }
        }
    }

    private void deeds(int round) {
        for (int s = 0; s < 10; s++) {
            int p = (s + 5) % 6;
            for (int q = round; q < 6; q += 2) {
                due("tell " + p + " " + q + " " + s, x.tell(p, q, s), oracle.tell(p, q, s));
            }
            for (int q = 0; q < 6; q++) {
                due("lend " + q + " " + s, x.lend(q, s % 6, s), oracle.lend(q, s % 6, s));
            }
            due("see " + s, x.see(s, s % 3 != round), oracle.see(s, s % 3 != round));
            due("pay " + s, x.pay(p, 1 << s), oracle.pay(p, 1 << s));
        }
        due("rise", x.rise(round), oracle.rise(round));
        if (round != 2) {
            due("quarter", x.quarter(), oracle.quarter());
        }
        due("mark", x.mark(round, false), oracle.mark(round, false));
        String gossip = "tell a b p;pay e s;quarter;pay f p q;rise c;tell b f t;quarter;";
        for (int i = 0; i < gossip.length(); i += 24) {
            long a = Check.word(gossip, i);
            long b = Check.word(gossip, i + 8);
            long c = Check.word(gossip, i + 16);
            due("feed", x.feed(a, b, c), oracle.feed(a, b, c));
        }
        due("gossip", x.gossip(), oracle.gossip());
    }
}
