import java.util.function.IntSupplier;

/** Promises 5 to 28, call by call: the last number that is one, the first that is not, and that nothing changes then. */
public final class CallEdgesTest {
    private static final int NONE = PaidSecrets.NONE;
    private static final int MIN = Integer.MIN_VALUE;
    private static final int MAX = Integer.MAX_VALUE;
    private static final String FOUR = "person a plain rank 3 tax 20;person b gossip rank 5 tax 12;"
        + "person c deaf rank 0 tax 0;person d priest rank 9 tax 7;";
    /** WORTHS: s 30, t 12, u 10 on s, v 9. */
    private static final String TOWN = FOUR + "secret s true of b costs 30 by a;secret t false of a costs 24 by a b;"
        + "secret u true of d costs 10 on s by c d;secret v false of b costs 9 by a d;"
        + "ear a b 3;ear b a 10;ear c a 5;ear d b 0;ear b d 0;clash s t;clash t v;";
    private static final int PEOPLE = 4;
    private static final int SECRETS = 4;
    private static final int[] NO_PERSON = {MIN, MIN + 1, MIN | 2, -65536, -2, -1, 4, 5, 6, 7, 36, 1 << 16, MAX - 1, MAX};
    private static final int[] NO_SECRET = {MIN, MIN + 1, MIN | 2, -65536, -2, -1, 4, 5, 9, 10, 11, 32, 1 << 16, MAX};
    private static final String FRESH = Check.all(Check.of(TOWN));

    private CallEdgesTest() {
    }

    public static void main(String[] args) {
        persons();
        secretsAsked();
        awareAsked();
        earsAsked();
        tellsOfNobody();
        tellsThatCantBe();
        tellsThatCan();
        paysOfNobody();
        paysThatCantBe();
        paysThatCan();
        rises();
        quartersAlwaysCan();
        lendsOfNobody();
        lendsThatCantBe();
        lendsThatCan();
        undosOfNothing();
        judgedAsked();
        leastsAsked();
        plotsOfNobody();
        plotsAsked();
        seesOfNothing();
        leaksAndLiesAsked();
        nightsAsked();
        restsAsked();
        yearsAsked();
        marksAsked();
        countsAsked();
        questionsChangeNothing();
        Check.end();
    }

    private static void due(String call, long got, long want) {
        Check.due(call, got, want);
    }

    private static PaidSecrets town() {
        return Check.of(TOWN);
    }

    /** Nothing that can be asked is another behind calls that were refused. */
    private static void unchanged(String calls, PaidSecrets x) {
        Check.due("nothing changes behind " + calls, Check.all(x).equals(FRESH), true);
    }

    /** Refused behind the acts as well as ahead of them: the answers are as if it had not been called. */
    private static void refused(String call, PaidSecrets x, IntSupplier answer) {
        String ahead = Check.all(x);
        due(call, answer.getAsInt(), NONE);
        Check.due("nothing changes behind " + call, Check.all(x).equals(ahead), true);
    }

    // ---- Promise 5: "NoSuchElementException: others."

    private static void persons() {
        PaidSecrets x = town();
        for (int nobody : NO_PERSON) {
            for (int what = 0; what <= 7; what++) {
                due("person " + nobody + " " + what, Check.person(x, nobody, what), Check.THROWN);
            }
            due("person " + nobody + " 8", Check.person(x, nobody, 8), Check.THROWN);
        }
        for (int person = 0; person < PEOPLE; person++) {
            for (int what : new int[] {MIN, -2, -1, 8, 9, 10, 255, MAX}) {
                due("person " + person + " " + what, Check.person(x, person, what), Check.THROWN);
            }
        }
        unchanged("persons of nobody", x);
        int[][] want = {{0, 3, 20, 11, 51, 0, 0, 0}, {1, 5, 12, 2, 12, 0, 0, 0}, {2, 0, 0, 4, 40, 0, 0, 0},
            {3, 9, 7, 12, 49, 0, 0, 0}};
        for (int person = 0; person < PEOPLE; person++) {
            for (int what = 0; what <= 7; what++) {
                due("person " + person + " " + what, Check.person(x, person, what), want[person][what]);
            }
        }
    }

    // ---- Promise 6: "3: on which (NONE: none)", "NONE: others."

    private static void secretsAsked() {
        PaidSecrets x = town();
        for (int nothing : NO_SECRET) {
            for (int what = 0; what <= 9; what++) {
                due("secret " + nothing + " " + what, x.secret(nothing, what), NONE);
            }
        }
        for (int secret = 0; secret < SECRETS; secret++) {
            for (int what : new int[] {MIN, -2, -1, 10, 11, 255, MAX}) {
                due("secret " + secret + " " + what, x.secret(secret, what), NONE);
            }
        }
        unchanged("secrets of nothing", x);
        int[][] want = {{0, 1, 30, NONE, 1, 1, 30, 0, 0, 2}, {1, 0, 24, NONE, 3, 2, 12, 0, 0, 9},
            {0, 3, 10, 0, 12, 1, 40, 0, 0, 0}, {1, 1, 9, NONE, 9, 1, 9, 0, 0, 2}};
        for (int secret = 0; secret < SECRETS; secret++) {
            for (int what = 0; what <= 9; what++) {
                due("secret " + secret + " " + what, x.secret(secret, what), want[secret][what]);
            }
        }
    }

    // ---- Promise 7: "1 or 0; NONE: others, the same."

    private static void awareAsked() {
        PaidSecrets x = town();
        for (int nobody : NO_PERSON) {
            due("aware " + nobody, x.aware(nobody, 0, 0), NONE);
            due("aware of " + nobody, x.aware(0, nobody, 0), NONE);
            due("aware of himself " + nobody, x.aware(nobody, nobody, 0), NONE);
        }
        for (int nothing : NO_SECRET) {
            due("aware by " + nothing, x.aware(0, 1, nothing), NONE);
        }
        unchanged("aware of nobody", x);
        due("tell", x.tell(0, 3, 0), 30);
        for (int person = 0; person < PEOPLE; person++) {
            for (int other = 0; other < PEOPLE; other++) {
                for (int secret = 0; secret < SECRETS; secret++) {
                    boolean both = secret == 0 && person + other == 3 && person * other == 0;
                    due("aware " + person + " " + other + " " + secret, x.aware(person, other, secret),
                        person == other ? NONE : both ? 1 : 0);
                }
            }
        }
        due("they know it, nobody is aware", x.aware(0, 1, 1), 0);
        int[][] tellings = {{0, 1, 0}, {0, 2, 1}, {0, 3, 1}, {1, 3, 1}, {0, 2, 3}, {0, 1, 3}};
        for (int[] told : tellings) {
            awareOfJust(told[0], told[1], told[2]);
        }
    }

    private static void awareOfJust(int teller, int hearer, int told) {
        PaidSecrets x = town();
        Check.due("told", x.tell(teller, hearer, told) >= 0, true);
        for (int person = 0; person < PEOPLE; person++) {
            for (int other = 0; other < PEOPLE; other++) {
                for (int secret = 0; secret < SECRETS && person != other; secret++) {
                    boolean both = person == teller && other == hearer || person == hearer && other == teller;
                    due("aware behind " + teller + hearer + told + ": " + person + other + secret,
                        x.aware(person, other, secret), both && secret == told ? 1 : 0);
                }
            }
        }
    }

    // ---- Promise 8: "Of ten .. (a gossip's one more); NONE: others, no ear."

    private static void earsAsked() {
        PaidSecrets x = town();
        for (int nobody : NO_PERSON) {
            due("ear " + nobody, x.ear(nobody, 0), NONE);
            due("ear to " + nobody, x.ear(1, nobody), NONE);
            due("ear of himself " + nobody, x.ear(nobody, nobody), NONE);
        }
        unchanged("ears of nobody", x);
        int[][] want = {{NONE, 3, NONE, NONE}, {10, NONE, NONE, 1}, {5, NONE, NONE, NONE}, {NONE, 0, NONE, NONE}};
        for (int person = 0; person < PEOPLE; person++) {
            for (int other = 0; other < PEOPLE; other++) {
                due("ear " + person + " " + other, x.ear(person, other), want[person][other]);
            }
        }
        for (int chance = 0; chance <= 10; chance++) {
            PaidSecrets y = Check.of(FOUR + "ear a b " + chance + ";ear b a " + chance + ";ear c d " + chance + ";");
            due("plain " + chance, y.ear(0, 1), chance);
            due("a gossip, 10 at most " + chance, y.ear(1, 0), Math.min(chance + 1, 10));
            due("deaf " + chance, y.ear(2, 3), chance);
        }
    }

    // ---- Promise 9: "NONE: others, it can't be."

    private static void tellsOfNobody() {
        PaidSecrets x = town();
        for (int nobody : NO_PERSON) {
            for (int secret = 0; secret < SECRETS; secret++) {
                due("tell by " + nobody, x.tell(nobody, 1, secret), NONE);
                due("tell to " + nobody, x.tell(0, nobody, secret), NONE);
                due("tell to himself " + nobody, x.tell(nobody, nobody, secret), NONE);
            }
        }
        for (int nothing : NO_SECRET) {
            due("tell " + nothing, x.tell(0, 1, nothing), NONE);
            due("tell " + nothing, x.tell(1, 0, nothing), NONE);
            due("tell " + nothing, x.tell(0, 0, nothing), NONE);
        }
        unchanged("tellings of nobody", x);
    }

    private static void tellsThatCantBe() {
        int[][] calls = {{0, 0, 0}, {1, 1, 1}, {0, 1, 2}, {1, 0, 0}, {1, 2, 0}, {0, 1, 1}, {1, 0, 1}, {0, 3, 3},
            {2, 0, 2}, {2, 1, 2}, {3, 0, 2}, {3, 1, 3}, {2, 3, 2}};
        for (int[] call : calls) {
            PaidSecrets x = town();
            due("tell " + call[0] + " " + call[1] + " " + call[2], x.tell(call[0], call[1], call[2]), NONE);
            unchanged("a telling that can't be", x);
        }
        PaidSecrets x = town();
        due("told", x.tell(0, 1, 0), 15);
        refused("told twice", x, () -> x.tell(0, 1, 0));
        refused("told back", x, () -> x.tell(1, 0, 0));
        due("told on", x.tell(1, 2, 0), 10);
        refused("by the deaf one who heard it", x, () -> x.tell(2, 3, 0));
        due("told to the priest", x.tell(1, 3, 0), 10);
        refused("to one who knows it from another", x, () -> x.tell(0, 3, 0));
    }

    private static void tellsThatCan() {
        PaidSecrets x = town();
        due("the last secret, to the deaf", x.tell(0, 2, 3), 4);
        due("the first person hears", x.tell(1, 3, 1), 12);
        due("the last person hears, priests aside", x.tell(0, 3, 0), 30);
        due("false, to whom it is of", x.tell(0, 1, 3), 0);
        due("met", x.secret(3, 7), 1);
        due("what is met may be told", town().tell(0, 1, 3), 0);
        due("four can be undone", x.count(9), 4);
    }

    // ---- Promise 10: "NONE: others, it can't be."

    private static void paysOfNobody() {
        PaidSecrets x = town();
        for (int nobody : NO_PERSON) {
            for (int set : new int[] {0, 1, 2, 4, 8, 15}) {
                due("pay of " + nobody, x.pay(nobody, set), NONE);
            }
        }
        int[] sets = {MIN, MIN | 1, MIN | 11, -1, -2, -16, -1024, 0, 16, 17, 27, 512, 1 << 10, 1 << 10 | 1, 1 << 30 | 1,
            MAX, MAX - 4};
        for (int person = 0; person < PEOPLE; person++) {
            for (int set : sets) {
                due("pay " + person + " by " + set, x.pay(person, set), NONE);
            }
        }
        unchanged("payments of nobody", x);
    }

    private static void paysThatCantBe() {
        int[][] calls = {{0, 0}, {0, 4}, {0, 5}, {0, 15}, {1, 1}, {1, 3}, {1, 10}, {2, 0}, {2, 1}, {2, 6}, {3, 1}, {3, 9},
            {0, 2}, {0, 8}};
        for (int[] call : calls) {
            PaidSecrets x = town();
            due("pay " + call[0] + " by " + call[1], x.pay(call[0], call[1]), NONE);
            unchanged("a payment that can't be", x);
        }
        PaidSecrets x = town();
        due("paid", x.pay(0, 3), 42);
        refused("twice by the same", x, () -> x.pay(0, 3));
        refused("twice by another", x, () -> x.pay(0, 8));
        refused("by one paid by another", x, () -> x.pay(1, 2));
        due("paid", x.pay(3, 8), 9);
        refused("by nothing though there is no tax", x, () -> x.pay(2, 0));
        due("without a tax", x.pay(2, 4), 40);
        refused("without a tax twice", x, () -> x.pay(2, 4));
    }

    private static void paysThatCan() {
        due("more than he must", town().pay(0, 11), 51);
        due("12 of 12", town().pay(1, 2), 12);
        due("21 of 20", town().pay(0, 10), 21);
        due("the priest by the deaf one's", town().pay(3, 4), 40);
        String taxed = "person a plain rank 1 tax %;secret s true of a costs 30 by a;secret t true of a costs 20 by a;";
        for (int tax = 48; tax <= 52; tax++) {
            due("50 of " + tax, Check.of(taxed.replace("%", "" + tax)).pay(0, 3), tax <= 50 ? 50 : NONE);
        }
        for (int tax = 0; tax <= 1; tax++) {
            String worthless = "person a plain rank 1 tax " + tax + ";secret s true of a costs 30 by a;worth 0;";
            due("0 of " + tax, Check.of(worthless).pay(0, 1), tax == 0 ? 0 : NONE);
        }
        PaidSecrets x = town();
        due("paid", x.pay(0, 1), 30);
        x.quarter();
        due("in the next quarter again", x.pay(0, 1), 30);
        x.quarter();
        due("told", x.tell(0, 1, 0), 15);
        due("its worth is less", x.pay(0, 1), NONE);
        due("with another", x.pay(0, 3), 27);
    }

    // ---- Promise 11: "NONE: others, it is 9."

    private static void rises() {
        PaidSecrets x = town();
        for (int nobody : NO_PERSON) {
            due("rise of " + nobody, x.rise(nobody), NONE);
        }
        due("at the top as told", x.rise(3), NONE);
        unchanged("rises of nobody", x);
        for (int rank = 1; rank <= 9; rank++) {
            due("rise to " + rank, x.rise(2), rank);
            due("the rank", Check.person(x, 2, 1), rank);
        }
        refused("from 9", x, () -> x.rise(2));
        due("undone", x.undo() ? 1 : 0, 1);
        due("8 again", Check.person(x, 2, 1), 8);
        due("9 again", x.rise(2), 9);
        due("others rise for themselves", x.rise(0) * 10 + x.rise(1), 46);
    }

    // ---- Promise 12: "who is FINED as bits."

    private static void quartersAlwaysCan() {
        PaidSecrets x = town();
        for (int quarter = 1; quarter <= 40; quarter++) {
            due("all who have a tax", x.quarter(), 11);
            due("quarters", x.count(4), quarter);
        }
        due("each time", Check.person(x, 3, 6), 40);
        due("without a tax never", Check.person(x, 2, 6), 0);
        x.pay(0, 1);
        x.pay(1, 2);
        x.pay(3, 8);
        due("nobody", x.quarter(), 0);
        due("not once more", Check.person(x, 0, 6), 40);
        due("paid no more", Check.person(x, 0, 5) + x.secret(0, 8), 0);
        x.pay(2, 4);
        due("who pays without a tax is not asked", x.quarter(), 11);
    }

    // ---- Promise 13: "NONE: others, it can't be."

    private static void lendsOfNobody() {
        PaidSecrets x = town();
        for (int nobody : NO_PERSON) {
            for (int secret = 0; secret < SECRETS; secret++) {
                due("lend to " + nobody, x.lend(nobody, 1, secret), NONE);
                due("lend by " + nobody, x.lend(0, nobody, secret), NONE);
                due("lend himself " + nobody, x.lend(nobody, nobody, secret), NONE);
            }
        }
        for (int nothing : NO_SECRET) {
            due("lend by secret " + nothing, x.lend(0, 1, nothing), NONE);
            due("lend by secret " + nothing, x.lend(3, 1, nothing), NONE);
        }
        unchanged("loans of nobody", x);
    }

    private static void lendsThatCantBe() {
        int[][] calls = {{0, 2, 0}, {0, 3, 0}, {0, 0, 1}, {1, 1, 0}, {3, 3, 2}, {1, 3, 2}, {2, 1, 0}, {2, 1, 3}, {0, 3, 2},
            {1, 0, 0}, {3, 1, 2}};
        for (int[] call : calls) {
            PaidSecrets x = town();
            due("lend " + call[0] + " " + call[1] + " " + call[2], x.lend(call[0], call[1], call[2]), NONE);
            unchanged("a loan that can't be", x);
        }
    }

    private static void lendsThatCan() {
        PaidSecrets x = town();
        due("plain", x.lend(0, 1, 0), 30);
        due("the gossip", x.lend(1, 0, 1), 12);
        due("the deaf, by one on another", x.lend(2, 3, 2), 40);
        due("the priest, by the last", x.lend(3, 1, 3), 9);
        int[] nets = {18, -27, 40, -31};
        for (int person = 0; person < PEOPLE; person++) {
            due("net of " + person, Check.person(x, person, 7), nets[person]);
        }
        due("by the same again", x.lend(0, 1, 0), 30);
        due("twice", Check.person(x, 0, 7), 48);
        due("who it is of may know it", x.tell(0, 1, 0), 15);
        due("its worth then", x.lend(0, 1, 0), 15);
        due("met", x.tell(0, 1, 3), 0);
        due("a met one", x.lend(3, 1, 3), 0);
        due("loans", x.count(8), 7);
        due("he neither owes more nor less", Check.person(x, 3, 7), -31);
        PaidSecrets paid = town();
        paid.pay(0, 1);
        due("a paid one", paid.lend(0, 1, 0), 30);
    }

    // ---- Promise 14: "false: nothing can be."

    private static void undosOfNothing() {
        PaidSecrets x = town();
        for (int i = 0; i < 20; i++) {
            Check.due("undo of nothing", x.undo(), false);
        }
        unchanged("undos of nothing", x);
        Check.due("of a new object", new PaidSecrets().undo(), false);
        x.rise(0);
        Check.due("one", x.undo(), true);
        Check.due("no more", x.undo(), false);
        unchanged("one undone", x);
    }

    // ---- Promise 15: "-2: others."

    private static void judgedAsked() {
        for (int lines = 0; lines <= 1; lines++) {
            PaidSecrets x = town();
            due("gossip", Check.gossip(x, "rise d;".repeat(lines)), 0);
            for (int what : new int[] {MIN, -3, -2, -1, 3, 4, 255, MAX}) {
                due("judged " + what, x.judged(what), -2);
            }
            due("judged 0", x.judged(0), lines == 0 ? NONE : 0);
            due("judged 1", x.judged(1), 0);
            due("judged 2", x.judged(2), 91);
        }
        due("judged of a new object", new PaidSecrets().judged(3), -2);
    }

    // ---- Promise 16: "NONE: others, he can't, has paid."

    private static void leastsAsked() {
        PaidSecrets x = town();
        for (int nobody : NO_PERSON) {
            due("least of " + nobody, x.least(nobody), NONE);
        }
        int[] want = {1, 2, 4, 8};
        for (int person = 0; person < PEOPLE; person++) {
            due("least of " + person, x.least(person), want[person]);
        }
        unchanged("leasts", x);
        x.pay(0, 3);
        due("he has paid", x.least(0), NONE);
        due("by what b has", x.least(1), NONE);
        x.pay(2, 4);
        due("has paid, without a tax", x.least(2), NONE);
        x.quarter();
        for (int person = 0; person < PEOPLE; person++) {
            due("least of " + person, x.least(person), want[person]);
        }
    }

    // ---- Promise 18: "NONE: none such. NoSuchElementException: others, the same."

    private static void plotsOfNobody() {
        PaidSecrets x = town();
        for (int nobody : NO_PERSON) {
            for (int what = 0; what <= 3; what++) {
                due("plot by " + nobody, Check.plot(x, nobody, 1, 1, what), Check.THROWN);
                due("plot against " + nobody, Check.plot(x, 0, nobody, 1, what), Check.THROWN);
                due("plot against himself " + nobody, Check.plot(x, nobody, nobody, 1, what), Check.THROWN);
            }
        }
        for (int person = 0; person < PEOPLE; person++) {
            due("plot against himself", Check.plot(x, person, person, 1, 0), Check.THROWN);
        }
        unchanged("plots of nobody", x);
    }

    private static void plotsAsked() {
        PaidSecrets x = town();
        for (int many : new int[] {MIN, -2, -1, 3, 4, 255, MAX}) {
            for (int what = 0; what <= 3; what++) {
                due("plot by " + many + " tellings", Check.plot(x, 0, 1, many, what), Check.THROWN);
            }
        }
        for (int many = 0; many <= 2; many++) {
            for (int what : new int[] {MIN, -2, -1, 4, 5, 255, MAX}) {
                due("plot " + what, Check.plot(x, 0, 1, many, what), Check.THROWN);
            }
        }
        unchanged("plots of nothing", x);
        plot(x, 0, 1, 39, 0, NONE, NONE);
        plot(x, 1, 1, 39, 0, NONE, NONE);
        plot(x, 2, 1, 39, 0, NONE, NONE);
        PaidSecrets y = Check.of(FOUR + "secret s true of a costs 12 by c;secret t false of b costs 12 by a c;");
        plot(y, 0, 2, -12, 0, NONE, NONE);
        plot(y, 2, 2, -12, 0, NONE, NONE);
        PaidSecrets z = Check.of(FOUR + "secret s true of a costs 12 by a;secret t false of b costs 24 by c;"
            + "secret u false of b costs 24 by a c;secret v true of b costs 3 on u by c;");
        plot(z, 0, 2, -27, 0, NONE, NONE);
        plot(z, 1, 2, -15, 1, 12, NONE);
        plot(z, 2, 2, -15, 1, 12, NONE);
    }

    private static void plot(PaidSecrets x, int many, int other, int gain, int tellings, int first, int second) {
        int[] want = {gain, tellings, first, second};
        for (int what = 0; what <= 3; what++) {
            due("plot against " + other + " by " + many + ", " + what, Check.plot(x, 0, other, many, what), want[what]);
        }
    }

    // ---- Promise 19: "false: others, 10 are SEEN."

    private static void seesOfNothing() {
        PaidSecrets x = town();
        for (int nothing : NO_SECRET) {
            Check.due("see " + nothing, x.see(nothing, true), false);
            Check.due("see " + nothing, x.see(nothing, false), false);
        }
        unchanged("sights of nothing", x);
        for (int secret = 0; secret < SECRETS; secret++) {
            Check.due("see " + secret, x.see(secret, secret == 0), true);
            due("seen", x.count(7), secret + 1);
        }
        due("nothing to undo", x.count(9), 0);
    }

    // ---- Promises 20, 21: "NONE: others, no set (but 0)", "NONE: others."

    private static void leaksAndLiesAsked() {
        PaidSecrets x = town();
        for (int what : new int[] {MIN, -2, -1, 4, 5, 255, MAX}) {
            due("leaks " + what, x.leaks(what), NONE);
            due("lies " + what, x.lies(what), NONE);
        }
        asked(x, new int[] {16, 0, 15, 0}, new int[] {1, 2, 1, 2});
        x.see(0, true);
        asked(x, new int[] {8, 1, 15, 1}, new int[] {1, 2, 1, 2});
        x.see(1, false);
        asked(x, new int[] {0, NONE, NONE, NONE}, new int[] {1, 2, 1, 2});
        due("leaks 4 with no set", x.leaks(4), NONE);
        due("leaks -1 with no set", x.leaks(-1), NONE);
    }

    private static void asked(PaidSecrets x, int[] leaks, int[] lies) {
        for (int what = 0; what <= 3; what++) {
            due("leaks " + what, x.leaks(what), leaks[what]);
            due("lies " + what, x.lies(what), lies[what]);
        }
    }

    // ---- Promises 22, 23: "(0 to 30)", "NONE: others."

    private static void nightsAsked() {
        PaidSecrets x = town();
        for (int nothing : NO_SECRET) {
            for (int nights : new int[] {0, 1, 30}) {
                due("mean of " + nothing, x.mean(nothing, nights), NONE);
                due("holds of " + nothing, x.holds(nothing, nights), NONE);
            }
        }
        for (int secret = 0; secret < SECRETS; secret++) {
            for (int nights : new int[] {MIN, -31, -2, -1, 31, 32, 255, MAX}) {
                due("mean behind " + nights, x.mean(secret, nights), NONE);
                due("holds behind " + nights, x.holds(secret, nights), NONE);
            }
        }
        unchanged("nights of nothing", x);
        int[] worths = {30, 12, 10, 9};
        for (int secret = 0; secret < SECRETS; secret++) {
            due("mean behind none", x.mean(secret, 0), worths[secret] * 1000);
            due("holds behind none", x.holds(secret, 0), 1000000);
        }
        due("u is never told: by the deaf, by a priest", x.mean(2, 30), 10000);
        due("so it holds", x.holds(2, 30), 1000000);
        PaidSecrets last = Check.of("person a plain rank 1 tax 0;person b plain rank 1 tax 0;"
            + "secret s true of a costs 60 by a;ear a b 1;");
        due("29 nights", last.holds(0, 29), lasting(29));
        due("30 nights", last.holds(0, 30), lasting(30));
    }

    /** 0.9 to the nights, in millionths, cut at each. */
    private static int lasting(int nights) {
        long chance = 1000000;
        for (int i = 0; i < nights; i++) {
            chance = 900000 * chance / 1000000;
        }
        return (int) chance;
    }

    // ---- Promise 25: "NONE: others, none such."

    private static void restsAsked() {
        PaidSecrets x = town();
        int[] guests = {MIN, MIN | 3, MIN | 7, -1, -2, -16, 0, 1, 2, 4, 8, 15, 16, 17, 19, 24, 32, 33, 35, 64, 65, 67,
            1 << 10 | 3, 1 << 30 | 3, MAX};
        for (int people : guests) {
            for (int what : new int[] {NONE, 0, 1}) {
                due("rests of " + people + " " + what, x.rests(people, what), NONE);
            }
        }
        for (int people : new int[] {3, 5, 6, 7, 9, 10, 11, 12, 13, 14}) {
            for (int what : new int[] {MIN, -3, -2}) {
                due("rests of " + people + " " + what, x.rests(people, what), NONE);
            }
            int many = x.rests(people, NONE);
            due("the one behind the last of " + people, x.rests(people, many), NONE);
            due("far behind", x.rests(people, MAX), NONE);
        }
        unchanged("rests", x);
        int[][] want = {{3, 1 * 11 + 2}, {5, 1 * 11 + 3}, {6, 2 * 11 + 3}, {9, 1 * 11 + 3}, {12, 3 * 11 + 3},
            {11, (1 * 11 + 2) * 11 + 3}};
        for (int[] row : want) {
            due("rests of " + row[0], x.rests(row[0], NONE), 1);
            due("the only one", x.rests(row[0], 0), row[1]);
        }
        StringBuilder six = new StringBuilder();
        for (char c = 'a'; c <= 'f'; c++) {
            six.append("person ").append(c).append(" plain rank 0 tax 0;");
        }
        PaidSecrets y = Check.of(six + "secret s true of a costs 9 by f;");
        due("the last two of six", y.rests(48, 0), 1);
        due("the last and others", y.rests(56, 0), 1);
        due("the first the highest", Check.of(six + "secret s true of a costs 9 by a;").rests(49, 0), 121);
        due("a seventh", y.rests(96, NONE), NONE);
        due("four of six", y.rests(60, NONE), NONE);
        due("six of six", y.rests(63, NONE), NONE);
    }

    // ---- Promise 26: "(0 to 9999)", "(1 to 100)", "NONE: others."

    private static void yearsAsked() {
        PaidSecrets x = town();
        for (int what = 0; what <= 2; what++) {
            for (int seed : new int[] {MIN, -2, -1, 10000, 10001, 65536, MAX}) {
                due("years by seed " + seed, x.years(seed, 1, what), NONE);
            }
            for (int nights : new int[] {MIN, -1, 0, 101, 102, 65537, MAX}) {
                due("years of " + nights, x.years(0, nights, what), NONE);
            }
        }
        for (int what : new int[] {MIN, -2, -1, 3, 4, 255, MAX}) {
            due("years " + what, x.years(0, 1, what), NONE);
        }
        unchanged("years of nothing", x);
        PaidSecrets still = Check.of(FOUR + "secret s true of a costs 9 by d;");
        for (int seed : new int[] {0, 1, 9998, 9999}) {
            for (int nights : new int[] {1, 9, 10, 99, 100}) {
                due("tellings", still.years(seed, nights, 0), 0);
                due("two fined each quarter", still.years(seed, nights, 1), nights / 10 * 2);
                due("worths", still.years(seed, nights, 2), 9);
            }
        }
    }

    // ---- Promise 27: "true; false: none such, nothing is on it (back)."

    private static void marksAsked() {
        PaidSecrets x = town();
        for (int none : new int[] {MIN, MIN + 3, -4, -2, -1, 4, 5, 31, 32, 33, 35, 64, MAX}) {
            Check.due("mark " + none, x.mark(none, false), false);
            Check.due("back at mark " + none, x.mark(none, true), false);
        }
        for (int mark = 0; mark < 4; mark++) {
            Check.due("nothing on it", x.mark(mark, true), false);
        }
        unchanged("marks of none", x);
        for (int mark = 0; mark < 4; mark++) {
            PaidSecrets y = town();
            Check.due("laid", y.mark(mark, false), true);
            y.rise(0);
            for (int other = 0; other < 4; other++) {
                if (other != mark) {
                    Check.due("nothing on another", y.mark(other, true), false);
                }
            }
            for (int none : new int[] {MIN, -1, 4, 32, mark + 32, mark - 32, MAX}) {
                Check.due("back at mark " + none, y.mark(none, true), false);
            }
            due("nothing went back", Check.person(y, 0, 1) + y.count(9), 5);
            Check.due("back", y.mark(mark, true), true);
            unchanged("going back to " + mark, y);
        }
    }

    // ---- Promise 28: "NONE for another what."

    private static void countsAsked() {
        PaidSecrets x = town();
        for (int what : new int[] {MIN, -2, -1, 11, 12, 255, MAX}) {
            due("count " + what, x.count(what), NONE);
            due("count " + what + " of a new object", new PaidSecrets().count(what), NONE);
        }
        int[] want = {4, 4, 5, 2, 0, 91, 0, 0, 0, 0, 0};
        for (int what = 0; what < want.length; what++) {
            due("count " + what, x.count(what), want[what]);
            due("count " + what + " of a new object", new PaidSecrets().count(what), 0);
        }
    }

    /** Whoever asks finds the TOWN as it was: plots, years and judgements are tried on the side. */
    private static void questionsChangeNothing() {
        PaidSecrets x = town();
        x.tell(0, 1, 0);
        x.pay(0, 3);
        x.lend(0, 1, 0);
        x.see(0, true);
        due("gossip", Check.gossip(x, "tell a b s;rise a;quarter;pay a s;"), 0);
        String ahead = Check.all(x);
        for (int what = 0; what <= 3; what++) {
            Check.plot(x, 0, 1, 2, what);
            x.judged(what);
            x.leaks(what);
            x.lies(what);
            x.years(17, 100, what);
            x.rests(7, what);
            x.mean(what, 30);
            x.holds(what, 30);
            x.least(what);
        }
        x.payers();
        x.settle();
        Check.due("all is as ahead", Check.all(x).equals(ahead), true);
        Check.due("the last act can be undone", x.undo(), true);
        due("it was the loan", x.count(8), 0);
    }
}
