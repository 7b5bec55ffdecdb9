/** Terms 2 and 3, sentence by sentence: what is full, empty, the most, the least, and equal ones. */
public final class TermEdgesTest {
    private static final int NONE = PaidSecrets.NONE;
    private static final String TWO = "person a plain rank 1 tax 5;person b plain rank 2 tax 0;";
    private static final String THREE = TWO + "person c plain rank 3 tax 0;";
    private static final String SIX = "person a plain rank 0 tax 0;person b plain rank 0 tax 0;"
        + "person c plain rank 0 tax 0;person d plain rank 0 tax 0;person e plain rank 0 tax 0;"
        + "person f plain rank 0 tax 0;";
    /** WORTHS: s 8, t 9, v 17; v is of b. */
    private static final String TOWN = TWO + "secret s true of a costs 8 by b;secret t true of b costs 9 by a;"
        + "secret v false of b costs 8 on t by a;ear a b 3;clash s t;";

    private TermEdgesTest() {
    }

    public static void main(String[] args) {
        worthsBetween0And999();
        worthsOnWorths();
        metIsNothing();
        halfWhenTwoKnowIt();
        lawByAgeAndRank();
        twelveLoans();
        tenSeen();
        sixteenUndone();
        eachActUndone();
        whatUndoLeaves();
        topRankJudged();
        judgedFromTheBeginning();
        judgedLinesThatCantBe();
        leastOfEqualOnes();
        payersOfEqualOnes();
        plotOfEqualOnes();
        plotTriesEachAnew();
        leaksOfEqualOnes();
        liesOfEqualOnes();
        nightsCutAtEach();
        nightsByKinds();
        nightsAside();
        nightsOfOneInAMillion();
        settleOfNets();
        feastOfWorths();
        seedsDrawn();
        quartersInYears();
        sixInYears();
        yearsFromNowOn();
        marksHoldEach();
        marksGoneBackTo();
        marksLaidOver();
        marksHoldEachSight();
        onePerson();
        noSecrets();
        noPeople();
        Check.end();
    }

    private static void due(String call, long got, long want) {
        Check.due(call, got, want);
    }

    private static void due(String call, boolean got, boolean want) {
        Check.due(call, got, want);
    }

    private static PaidSecrets town() {
        return Check.of(TOWN);
    }

    private static void same(String what, PaidSecrets x, PaidSecrets y) {
        due(what, Check.all(x).equals(Check.all(y)), true);
    }

    // ---- Term 2: "0 if it is MET; else the E of worth (0 below it, 999 above) and the WORTH of the one it is on"

    private static String chain(int secrets, String law) {
        StringBuilder text = new StringBuilder(TWO);
        for (int i = 0; i < secrets; i++) {
            text.append("secret ").append((char) ('m' + i)).append(" false of b costs 7 ");
            if (i > 0) {
                text.append("on ").append((char) ('m' + i - 1));
            }
            text.append(" by a;");
        }
        return text + law;
    }

    private static void worthsBetween0And999() {
        String[] laws = {"0-9999*9999", "0-1", "0", "1", "998", "999", "1000", "9999*9999", "cost-7", "cost-8"};
        int[] want = {0, 0, 0, 1, 998, 999, 999, 999, 0, 0};
        for (int i = 0; i < laws.length; i++) {
            due("worth " + laws[i], Check.of(chain(1, "worth " + laws[i] + ";")).secret(0, 6), want[i]);
        }
    }

    private static void worthsOnWorths() {
        PaidSecrets x = Check.of(chain(10, "worth 1000;"));
        for (int i = 0; i < 10; i++) {
            due("999 each, and what it is on", x.secret(i, 6), 999 * (i + 1));
        }
        due("purse", Check.person(x, 0, 4), 999 * 55);
        due("of one who knows nothing", Check.person(x, 1, 4), 0);
        due("of all", x.count(5), 999 * 55);
        due("paid by all", x.pay(0, 1023), 999 * 55);
        PaidSecrets y = Check.of(chain(10, "worth 0-5;"));
        due("0 each", y.count(5), 0);
        due("without a law", Check.of(chain(10, "")).secret(9, 6), 70);
    }

    private static void metIsNothing() {
        PaidSecrets x = Check.of(chain(4, "worth cost;"));
        due("the second is met", x.tell(0, 1, 1), 0);
        int[] want = {7, 0, 7, 14};
        for (int i = 0; i < 4; i++) {
            due("on a met one " + i, x.secret(i, 6), want[i]);
        }
        due("all together", x.count(5), 28);
        due("the last is met", x.tell(0, 1, 3), 0);
        due("but the third", x.secret(2, 6), 7);
        due("it stays met when told on", Check.of(chain(1, "")).tell(0, 1, 0), 0);
        PaidSecrets y = Check.of(THREE + "secret s false of b costs 9 by b;secret t true of b costs 9 by a;");
        due("told by him", y.tell(1, 0, 0), 4);
        due("told true to him", y.tell(0, 1, 1), 4);
        due("neither is met", y.secret(0, 7) + y.secret(1, 7), 0);
    }

    // ---- "half when two know it, nothing from the fifth"

    private static void halfWhenTwoKnowIt() {
        PaidSecrets x = Check.of(SIX + "secret s true of f costs 99 by a;");
        int[] want = {99, 49, 33, 24, 0, 0};
        due("one", x.secret(0, 6), want[0]);
        for (int i = 1; i < 6; i++) {
            due("told to " + i, x.tell(0, i, 0), want[i]);
            due("knowers", x.secret(0, 5), i + 1);
        }
    }

    private static void lawByAgeAndRank() {
        PaidSecrets x = Check.of(TOWN + "worth age*100+high*10+knowers;");
        int[] want = {11, 21, 42};
        for (int i = 0; i < 3; i++) {
            due("quarter 0, rank of whom it is of", x.secret(i, 6), want[i]);
        }
        x.quarter();
        x.rise(0);
        due("behind a quarter, a rise", x.secret(0, 6), 121);
        due("of b", x.secret(1, 6), 121);
        due("on it", x.secret(2, 6), 242);
        due("of who has a rank 9", Check.of("person a deaf rank 9 tax 0;secret s true of a costs 1 by a;worth high;")
            .secret(0, 6), 9);
    }

    // ---- LEND: "(12 such at most)"

    private static void twelveLoans() {
        PaidSecrets x = town();
        for (int i = 1; i <= 12; i++) {
            int lender = i % 2;
            due("loan " + i, x.lend(lender, 1 - lender, lender == 0 ? 1 : 0), lender == 0 ? 9 : 8);
            due("loans", x.count(8), i);
        }
        PaidSecrets full = town();
        for (int i = 1; i <= 12; i++) {
            full.lend(i % 2, 1 - i % 2, 1 - i % 2);
        }
        due("a thirteenth", x.lend(0, 1, 1), NONE);
        due("of another", x.lend(1, 0, 0), NONE);
        due("not one of worth 0 either", x.tell(0, 1, 2) + x.lend(0, 1, 2), NONE);
        due("the telling undone", x.undo(), true);
        same("nothing changes behind a thirteenth", x, full);
        due("net", Check.person(x, 0, 7), 6);
        due("undone", x.undo(), true);
        due("eleven", x.count(8), 11);
        due("the twelfth again", x.lend(0, 1, 2), 17);
        due("no thirteenth", x.lend(0, 1, 2), NONE);
        x.quarter();
        due("a quarter forgives nothing", x.lend(0, 1, 2), NONE);
        PaidSecrets y = town();
        y.lend(0, 1, 1);
        y.mark(0, false);
        for (int i = 2; i <= 12; i++) {
            y.lend(0, 1, 1);
        }
        due("twelve", y.count(8), 12);
        due("back", y.mark(0, true), true);
        due("one", y.count(8) * 100 + Check.person(y, 0, 7), 109);
        for (int i = 2; i <= 12; i++) {
            due("loan " + i, y.lend(0, 1, 1), 9);
        }
        due("no thirteenth", y.lend(0, 1, 1), NONE);
        due("a new town", Check.town(y, TOWN), 0);
        due("owes nothing", y.count(8) + Check.person(y, 0, 7), 0);
        due("may lend", y.lend(0, 1, 1), 9);
    }

    // ---- SEEN: "(10 at most)"

    private static void tenSeen() {
        PaidSecrets x = town();
        for (int i = 1; i <= 10; i++) {
            due("seen " + i, x.see(i % 3, true), true);
            due("seen", x.count(7), i);
        }
        due("an eleventh", x.see(0, true), false);
        due("that one held", x.see(0, false), false);
        due("ten", x.count(7), 10);
        due("leaks are of ten", x.leaks(0), 1);
        x.rise(0);
        due("undone", x.undo(), true);
        due("sights are not undone", x.count(7), 10);
        due("an eleventh", x.see(1, false), false);
        PaidSecrets y = town();
        due("seen", y.see(0, true), true);
        y.mark(2, false);
        for (int i = 2; i <= 10; i++) {
            y.see(1, true);
        }
        due("ten", y.count(7) * 10 + y.leaks(0), 101);
        y.mark(2, true);
        due("back to one", y.count(7) * 10 + y.leaks(0), 12);
        for (int i = 2; i <= 10; i++) {
            due("seen " + i, y.see(2, true), true);
        }
        due("an eleventh", y.see(2, true), false);
        due("a new town", Check.town(y, TOWN), 0);
        due("nothing seen", y.count(7), 0);
        due("all sets", y.leaks(0), 4);
        due("seen", y.see(0, true), true);
    }

    // ---- "UNDO: these, the last 16, one by one."

    private static void act(PaidSecrets x, int number) {
        switch (number % 5) {
            case 0:
                x.rise(1);
                break;
            case 1:
                x.lend(0, 1, 1);
                break;
            case 2:
                x.quarter();
                break;
            case 3:
                x.pay(0, 2);
                break;
            default:
                x.rise(0);
        }
    }

    private static PaidSecrets behind(int acts) {
        PaidSecrets x = town();
        for (int i = 0; i < acts; i++) {
            act(x, i);
        }
        return x;
    }

    private static void sixteenUndone() {
        for (int acts : new int[] {1, 15, 16}) {
            PaidSecrets x = behind(acts);
            due("can be undone", x.count(9), acts);
            for (int left = acts - 1; left >= 0; left--) {
                due("undo", x.undo(), true);
                if (left % 4 == 0 || left > 13) {
                    same("one by one, " + left + " left", x, behind(left));
                }
            }
            due("no more", x.undo(), false);
        }
        for (int acts : new int[] {17, 18, 33}) {
            PaidSecrets x = behind(acts);
            due("16 can be undone", x.count(9), 16);
            for (int i = 1; i <= 16; i++) {
                due("undo " + i, x.undo(), true);
                due("left", x.count(9), 16 - i);
            }
            due("not the one ahead of 16", x.undo(), false);
            PaidSecrets y = behind(acts - 16);
            y.mark(0, false);
            y.mark(0, true);
            same("it stays", x, y);
        }
        PaidSecrets x = behind(16);
        due("undone", x.undo() && x.undo(), true);
        due("told", x.tell(0, 1, 1), 4);
        due("15", x.count(9), 15);
        due("that one first", x.undo(), true);
        same("then it is as it was", x, behind(14));
    }

    private static void eachActUndone() {
        for (int act = 0; act < 6; act++) {
            PaidSecrets x = town();
            x.quarter();
            x.undo();
            int answer = act == 0 ? x.tell(0, 1, 2) : act == 1 ? x.pay(0, 6) : act == 2 ? x.rise(0)
                : act == 3 ? x.quarter() : act == 4 ? x.lend(0, 1, 2) : x.tell(1, 0, 0);
            due("an act " + act, answer, new int[] {0, 26, 2, 1, 17, 4}[act]);
            due("it changes something", Check.all(x).equals(Check.all(town())), false);
            due("one to undo", x.count(9), 1);
            due("undone", x.undo(), true);
            same("undone " + act, x, town());
        }
    }

    private static void whatUndoLeaves() {
        PaidSecrets x = town();
        x.rise(0);
        due("gossip", Check.gossip(x, "rise b;"), 0);
        x.see(1, true);
        x.mark(1, false);
        due("fed", Check.feed(x, "abc"), 3);
        due("undone", x.undo(), true);
        due("gossip, seen, fed stay", x.count(6) * 100 + x.count(7) * 10 + x.count(10), 113);
        due("only acts are undone", x.undo(), false);
        due("the mark holds the rise", x.mark(1, true), true);
        due("rank", Check.person(x, 0, 1), 2);
    }

    // ---- JUDGED: "rise of rank 9 can't, quarter always can", "from the beginning", "lines that can't be are left out"

    private static void judge(String town, String gossip, int first, int fined, int worths) {
        PaidSecrets x = Check.of(town);
        due("gossip of " + gossip, Check.gossip(x, gossip), 0);
        due("first of " + gossip, x.judged(0), first);
        due("fined of " + gossip, x.judged(1), fined);
        due("worths of " + gossip, x.judged(2), worths);
    }

    private static void topRankJudged() {
        String high = "person a plain rank 8 tax 0;secret s true of a costs 1 by a;worth high*100;";
        judge(high, "rise a;", NONE, 0, 900);
        judge(high, "rise a;rise a;", 1, 0, 900);
        judge(high.replace("rank 8", "rank 9"), "quarter;rise a;", 1, 0, 900);
        judge(high.replace("rank 8", "rank 0"), "rise a;".repeat(9), NONE, 0, 900);
        judge(high.replace("rank 8", "rank 0"), "rise a;".repeat(10), 9, 0, 900);
        judge(high.replace("rank 8", "rank 0"), "rise a;".repeat(30), 9, 0, 900);
        judge(TOWN, "quarter;".repeat(30), NONE, 30, 34);
        judge(TOWN, "", NONE, 0, 34);
    }

    private static void judgedFromTheBeginning() {
        PaidSecrets x = town();
        due("gossip", Check.gossip(x, "pay a t;rise b;tell a b v;quarter;quarter;"), 0);
        x.pay(0, 2);
        x.tell(0, 1, 2);
        for (int i = 0; i < 7; i++) {
            x.rise(1);
        }
        x.quarter();
        due("all can as it was told at first", x.judged(0), NONE);
        due("fined once", x.judged(1), 1);
        due("8 and 9, v is met", x.judged(2), 17);
        due("as it is now", x.count(5), 17);
        due("undone", x.undo(), true);
        due("the same", x.judged(1), 1);
        x.mark(0, false);
        due("from a mark the same", x.judged(0), NONE);
    }

    private static void judgedLinesThatCantBe() {
        judge(TOWN, "tell a b s;", 0, 0, 34);
        judge(TOWN, "tell b a t;", 0, 0, 34);
        judge(TOWN, "tell a b t;tell a b t;", 1, 0, 24);
        judge(TOWN, "tell a b t;tell b a t;", 1, 0, 24);
        judge(TOWN, "pay a s;quarter;", 0, 1, 34);
        judge(TOWN, "pay a s t;quarter;", 0, 1, 34);
        judge(TOWN, "pay a t;pay a v;quarter;", 1, 0, 34);
        judge(TOWN, "tell a b t;pay a t;quarter;", 1, 1, 24);
        judge(TOWN, "tell a b t;pay a t v;quarter;", NONE, 0, 24);
        judge(TOWN, "tell a b v;pay a v;pay a t;quarter;", 1, 0, 17);
        judge(TOWN, "pay a t;quarter;pay a t;quarter;quarter;", NONE, 1, 34);
        judge(TOWN, "tell a b t;pay b t;pay a t v;pay a v;quarter;", 2, 0, 24);
        judge(TOWN.replace("a plain", "a deaf"), "pay a t;tell a b t;rise a;quarter;", 1, 0, 34);
        judge(TOWN.replace("a plain", "a priest"), "tell a b t;tell b a s;tell a b s;", 0, 0, 34);
        judge(TOWN, "quarter;tell a b s;tell b a t;rise b;tell b a s;", 1, 1, 30);
    }

    // ---- LEAST: "the fewest by which he can; of equal ones the least WORTH together, then the least set"

    private static String payer(int tax, int... costs) {
        StringBuilder text = new StringBuilder("person a plain rank 1 tax ").append(tax)
            .append(";person b plain rank 1 tax 0;");
        for (int i = 0; i < costs.length; i++) {
            text.append("secret ").append((char) ('m' + i)).append(" true of a costs ").append(costs[i]).append(" by a;");
        }
        return text.toString();
    }

    private static void leastOfEqualOnes() {
        due("one rather than two", Check.of(payer(20, 10, 10, 99)).least(0), 4);
        due("of ones the least worth", Check.of(payer(20, 99, 21, 20, 19)).least(0), 4);
        due("just the tax", Check.of(payer(20, 20)).least(0), 1);
        due("one less", Check.of(payer(21, 20)).least(0), NONE);
        due("of alike ones the least set", Check.of(payer(20, 25, 25, 25)).least(0), 1);
        due("of pairs the least worth, then the least set", Check.of(payer(20, 19, 18, 2, 1)).least(0), 6);
        due("of pairs the least worth", Check.of(payer(20, 19, 18, 3, 1)).least(0), 9);
        due("of alike pairs the least set", Check.of(payer(20, 12, 10, 8, 10)).least(0), 5);
        due("10 and 10 behind 12 and 8", Check.of(payer(20, 10, 12, 8, 10)).least(0), 6);
        due("all ten", Check.of(payer(20, 2, 2, 2, 2, 2, 2, 2, 2, 2, 2)).least(0), 1023);
        due("nine of ten", Check.of(payer(18, 2, 2, 2, 2, 2, 2, 2, 2, 2, 2)).least(0), 511);
        due("all ten are too little", Check.of(payer(21, 2, 2, 2, 2, 2, 2, 2, 2, 2, 2)).least(0), NONE);
        due("the last", Check.of(payer(20, 2, 2, 2, 2, 2, 2, 2, 2, 2, 20)).least(0), 512);
        due("without a tax one all the same", Check.of(payer(0, 9, 3, 4, 3)).least(0), 2);
        due("without a tax by one of worth 0", Check.of(payer(0, 9, 3) + "worth 0;").least(0), 1);
        due("without secrets none", Check.of(payer(0)).least(0), NONE);
        PaidSecrets x = Check.of(payer(20, 20, 20) + "secret z true of a costs 30 by a b;");
        due("paid by another", x.pay(1, 4), 15);
        due("the others", x.least(0), 1);
        due("paid", x.pay(0, 3), 40);
        due("has paid", x.least(0), NONE);
        x.quarter();
        due("again", x.least(0), 1);
        due("who has no tax and has paid", x.pay(1, 4) + x.least(1), 14);
    }

    // ---- PAYERS: "the most PEOPLE who can all PAY at once, each SECRET by one of them at most; .. the least set"

    private static String taxed(int... taxes) {
        StringBuilder text = new StringBuilder();
        for (int i = 0; i < taxes.length; i++) {
            text.append("person ").append((char) ('a' + i)).append(" plain rank 1 tax ").append(taxes[i]).append(';');
        }
        return text.toString();
    }

    private static void payersOfEqualOnes() {
        String one = "secret s true of a costs 90 by ";
        due("one secret, one payer", Check.of(taxed(5, 5, 5) + one + "a b c;").payers(), 1);
        due("who can", Check.of(taxed(99, 31, 30) + one + "a b c;").payers(), 4);
        due("just the tax", Check.of(taxed(30, 99, 99) + one + "a b c;").payers(), 1);
        due("none has a tax", Check.of(taxed(0, 0, 0) + one + "a b c;").payers(), 0);
        due("only who has a tax", Check.of(taxed(0, 1, 0) + one + "a b c;").payers(), 2);
        due("nobody can", Check.of(taxed(46, 46) + one + "a b;").payers(), 0);
        String t = "secret t true of a costs 90 by ";
        due("two of three, the least set", Check.of(taxed(9, 9, 9) + one + "a b c;" + t + "a b c;").payers(), 3);
        due("two who know one, one who knows the other", Check.of(taxed(9, 9, 9) + one + "a b;" + t + "c;").payers(), 5);
        due("a could take both", Check.of(taxed(50, 9, 9) + one + "a b;" + t + "a c;").payers(), 6);
        due("more rather than the least", Check.of(taxed(90, 45, 45) + one + "a b;" + t + "a c;").payers(), 6);
        PaidSecrets x = Check.of(taxed(9, 9, 9) + one + "a b;" + t + "b c;");
        due("two by two", x.payers(), 3);
        due("a pays by s", x.pay(0, 1), 45);
        due("b or c by t", x.payers(), 2);
        due("b pays by t", x.pay(1, 2), 45);
        due("nothing is left for c", x.payers(), 0);
        x.quarter();
        due("again", x.payers(), 3);
        StringBuilder six = new StringBuilder(taxed(12, 12, 12, 12, 12, 12));
        for (int i = 0; i < 6; i++) {
            six.append("secret ").append((char) ('m' + i)).append(" true of a costs 72 by a b c d e f;");
        }
        due("all six", Check.of(six + "worth cost;").payers(), 63);
        due("worth nothing from the fifth", Check.of(six.toString()).payers(), 0);
        due("five by five", Check.of(six.toString().replace("secret r true of a costs 72", "secret r true of a costs 1")
            + "worth cost;").payers(), 31);
    }

    // ---- PLOT: "the greatest; of equal ones the fewest, then the first row (.. the lesser ahead)"

    private static void plot(String name, PaidSecrets x, int many, int... want) {
        for (int what = 0; what <= 3; what++) {
            due(name + ", plot by " + many + ", " + what, Check.plot(x, 0, 1, many, what), want[what]);
        }
    }

    private static void plotOfEqualOnes() {
        PaidSecrets none = Check.of(SIX + "secret s true of f costs 60 by a;");
        for (int many = 0; many <= 2; many++) {
            plot("telling costs", none, many, 60, 0, NONE, NONE);
        }
        PaidSecrets flat = Check.of(SIX + "secret s true of f costs 60 by a;worth cost;");
        plot("telling is the same", flat, 2, 60, 0, NONE, NONE);
        PaidSecrets up = Check.of(SIX + "secret s true of f costs 1 by a;secret t true of f costs 1 by a;worth knowers;");
        plot("none", up, 0, 2, 0, NONE, NONE);
        plot("the first hearer who is not b", up, 1, 3, 1, 20, NONE);
        plot("the first two rows", up, 2, 4, 2, 20, 21);
        PaidSecrets once = Check.of(SIX + "secret s false of c costs 9 by a b;secret t true of f costs 4 on s by b;"
            + "secret u true of f costs 4 on s by b;");
        plot("as it is", once, 0, -16, 0, NONE, NONE);
        plot("met", once, 1, -8, 1, 20, NONE);
        plot("a second telling gains nothing", once, 2, -8, 1, 20, NONE);
        PaidSecrets order = Check.of(SIX + "secret s true of f costs 1 by a;"
            + "secret t false of d costs 99 by b;secret u false of d costs 9 by a b;secret v true of f costs 1 on u by b;"
            + "worth cost;");
        plot("u is met by d", order, 1, -99, 1, 32, NONE);
        String nine = SIX;
        for (char c = 'k'; c < 'k' + 9; c++) {
            nine += "secret " + c + " true of a costs 1 by b;";
        }
        PaidSecrets met = Check.of(nine + "secret z false of f costs 99 on k by a b;worth cost;");
        plot("what both lose is no gain", met, 2, -9, 0, NONE, NONE);
        PaidSecrets two = Check.of(nine + "secret z true of f costs 10 by a;worth knowers=2;");
        plot("the last secret", two, 1, 1, 1, 29, NONE);
        PaidSecrets row = Check.of(nine + "secret z true of f costs 10 by a c d e;worth knowers=5;");
        plot("the last row of all", row, 1, 1, 1, 59, NONE);
        PaidSecrets three = Check.of(SIX + "secret s true of f costs 1 by a c d e;worth knowers=5;");
        plot("the last hearer", three, 1, 1, 1, 50, NONE);
        plot("a second one undoes it", three, 2, 1, 1, 50, NONE);
        PaidSecrets six = Check.of(SIX + "secret s true of f costs 1 by a c d;worth (knowers=5)-(knowers=4);");
        plot("both of them", six, 2, 1, 2, 40, 50);
    }

    private static void plotTriesEachAnew() {
        PaidSecrets x = Check.of(SIX + "secret s false of c costs 9 by a b;secret t true of f costs 6 by a;"
            + "secret u true of f costs 9 on s by b;worth cost*knowers;");
        plot("as it is", x, 0, 6 - 9 - 18, 0, NONE, NONE);
        plot("s is met: u falls to 9", x, 1, 6 - 9, 1, 20, NONE);
        plot("t is told as well", x, 2, 12 - 9, 2, 20, 21);
        PaidSecrets y = Check.of(SIX + "secret s false of c costs 9 by a b;secret t true of f costs 6 by a;"
            + "worth cost*knowers;");
        plot("not met when t is told", y, 1, 12, 1, 21, NONE);
        plot("t twice", y, 2, 18, 2, 21, 31);
        PaidSecrets priest = Check.of("person a plain rank 1 tax 0;person b priest rank 1 tax 0;"
            + "secret s true of a costs 99 by a;secret t true of a costs 30 by b;secret u true of a costs 20 by a b;");
        plot("t has no knowers", priest, 2, 99 - 30, 0, NONE, NONE);
        PaidSecrets zero = Check.of("person a plain rank 1 tax 0;person b priest rank 1 tax 0;person c plain rank 1 tax 0;"
            + "secret t true of a costs 30 by b;secret u true of a costs 20 by a;"
            + "worth cost*(knowers=0)+cost*(knowers=2);");
        plot("the priest's alone", zero, 0, -30, 0, NONE, NONE);
        plot("u told to c", zero, 1, -10, 1, 21, NONE);
        PaidSecrets later = Check.of(TOWN + "worth cost*(age+1)+high;");
        later.quarter();
        later.rise(1);
        plot("t 18 + 3, v 16 + 3 and t, less s 16 + 1", later, 0, 21 + 40 - 17, 0, NONE, NONE);
        PaidSecrets told = Check.of(SIX + "secret s true of f costs 60 by a;worth knowers*10;");
        told.tell(0, 2, 0);
        plot("from who knows it now on", told, 1, 30, 1, 30, NONE);
        due("undone", told.undo(), true);
        plot("from who knows it now on", told, 1, 20, 1, 20, NONE);
    }

    // ---- LEAKS: "how many sets; PEOPLE in all, in some; the least of the smallest sets"

    private static void leaks(PaidSecrets x, int... want) {
        for (int what = 0; what <= 3; what++) {
            due("leaks " + what, x.leaks(what), want[what]);
        }
    }

    private static void leaksOfEqualOnes() {
        PaidSecrets x = Check.of(SIX + "secret s true of a costs 1 by e f;secret t true of a costs 1 by c d;"
            + "secret u true of a costs 1 by a;secret v true of a costs 1 by a b c d e f;");
        leaks(x, 64, 0, 63, 0);
        x.mark(0, false);
        x.see(3, false);
        leaks(x, 1, 0, 0, 0);
        x.see(3, true);
        leaks(x, 0, NONE, NONE, NONE);
        x.mark(0, true);
        x.see(3, true);
        leaks(x, 63, 0, 63, 1);
        x.see(2, false);
        leaks(x, 31, 0, 62, 2);
        x.see(0, true);
        leaks(x, 24, 0, 62, 16);
        x.see(1, true);
        leaks(x, 18, 0, 62, 20);
        due("who knows it now", x.tell(4, 2, 0), 0);
        leaks(x, 22, 0, 62, 4);
        due("undone", x.undo(), true);
        leaks(x, 18, 0, 62, 20);
        x.mark(0, true);
        x.see(2, true);
        leaks(x, 32, 1, 63, 1);
        x.see(2, true);
        leaks(x, 32, 1, 63, 1);
    }

    // ---- FALSE: "the fewest SECRETS ..; the least set; how many such sets of so few; SECRETS in all of these"

    private static void lies(String clashes, int... want) {
        StringBuilder text = new StringBuilder("person a deaf rank 1 tax 1;");
        for (char c = 'k'; c < 'k' + 10; c++) {
            text.append("secret ").append(c).append(c % 2 == 0 ? " true" : " false").append(" of a costs 1 by a;");
        }
        for (int i = 0; i < clashes.length(); i += 3) {
            text.append("clash ").append(clashes.charAt(i)).append(' ').append(clashes.charAt(i + 1)).append(';');
        }
        PaidSecrets x = Check.of(text.toString());
        for (int what = 0; what <= 3; what++) {
            due("lies " + what + " with " + clashes, x.lies(what), want[what]);
        }
    }

    private static void liesOfEqualOnes() {
        lies("", 0, 0, 1, 0);
        lies("kl", 1, 1, 2, 0);
        lies("st", 1, 256, 2, 0);
        lies("tk", 1, 1, 2, 0);
        lies("kl km", 1, 1, 1, 1);
        lies("lk mk", 1, 1, 1, 1);
        lies("kl mn", 2, 5, 4, 0);
        lies("kl lm mk", 2, 3, 3, 0);
        lies("kl lm mn", 2, 5, 3, 0);
        lies("kl mn op qr st", 5, 341, 32, 0);
        lies("kl km kn st", 2, 257, 2, 1);
        lies("tk tl tm so sp sq", 2, 768, 1, 768);
    }

    // ---- NIGHTS: "by 10, cut, teller by teller ..", "by 1,000,000, cut at each", "10 at most"

    private static void nightsCutAtEach() {
        PaidSecrets x = Check.of(SIX + "secret s true of f costs 60 by a b;ear a c 3;ear b c 3;ear a d 3;ear b d 3;"
            + "ear a e 3;ear b e 3;ear a f 3;ear b f 3;");
        due("30 * 57648 + 20 * 4 * 60000 + 15 * 6 * 62450, not 12150", x.mean(0, 1), 12149);
        due("0.49 four times, cut at each", x.holds(0, 1), 57648);
        due("none gone yet", x.mean(0, 0), 30000);
        PaidSecrets six = Check.of(SIX + "secret s true of f costs 60 by a b c d e;ear a f 9;ear b f 9;ear c f 9;"
            + "ear d f 9;ear e f 9;worth 6-knowers;");
        due("0.1 five times: 10 left", six.holds(0, 1), 1000000 - 999990);
        due("and of the worth", six.mean(0, 1), 0);
        PaidSecrets seven = Check.of(SIX + "secret s true of f costs 60 by a b c d e;ear a f 9;ear b f 9;ear c f 9;"
            + "ear d f 9;ear e f 8;worth 600*(6-knowers);");
        due("20 left", seven.holds(0, 1), 20);
        due("600 * 20 / 1000", seven.mean(0, 1), 12);
        PaidSecrets cut = Check.of(SIX + "secret s true of f costs 60 by a b c d e;ear a f 7;ear b f 7;ear c f 7;"
            + "ear d f 7;ear e f 7;worth 6-knowers;");
        due("0.3 five times: 2430", cut.holds(0, 1), 2430);
        due("nothing in thousandths is 2", cut.mean(0, 1), 2);
        due("two nights: 2430 * 2430 / 1000000", cut.holds(0, 2), 5);
        due("three nights", cut.holds(0, 3), 0);
    }

    private static void nightsByKinds() {
        String heard = "person b % rank 1 tax 0;secret s true of b costs 90 by a;ear a b ";
        int[] plain = {1000000, 900000, 100000, 0};
        int[] gossip = {900000, 800000, 0, 0};
        int[] chances = {0, 1, 9, 10};
        for (int i = 0; i < 4; i++) {
            for (String hearer : new String[] {"plain", "gossip", "deaf"}) {
                String rest = heard.replace("%", hearer) + chances[i] + ";";
                due("plain " + chances[i], Check.of("person a plain rank 1 tax 0;" + rest).holds(0, 1), plain[i]);
                due("gossip " + chances[i], Check.of("person a gossip rank 1 tax 0;" + rest).holds(0, 1), gossip[i]);
                due("deaf " + chances[i], Check.of("person a deaf rank 1 tax 0;" + rest).holds(0, 1), 1000000);
                due("priest " + chances[i], Check.of("person a priest rank 1 tax 0;" + rest).mean(0, 1), 90000);
            }
        }
        PaidSecrets x = Check.of(THREE + "secret s true of b costs 90 by a;ear b c 10;ear c b 10;");
        due("who does not know it tells nobody", x.holds(0, 30), 1000000);
        PaidSecrets y = Check.of(THREE + "secret s true of b costs 90 by a;ear a b 10;ear b c 10;ear c a 10;");
        due("as it begins", y.mean(0, 1), 45000);
        due("then the next", y.mean(0, 2), 30000);
        due("then all know it", y.mean(0, 30), 30000);
        PaidSecrets deaf = Check.of(THREE.replace("b plain", "b deaf")
            + "secret s true of b costs 90 by a;ear a b 10;ear b c 10;");
        due("the deaf one hears, and is the last", deaf.mean(0, 30), 45000);
        PaidSecrets told = Check.of(THREE + "secret s true of b costs 90 by a;ear b c 10;");
        due("told", told.tell(0, 1, 0), 45);
        due("from who knows it now on", told.mean(0, 1), 30000);
    }

    private static void nightsAside() {
        PaidSecrets x = Check.of(chain(3, "worth cost*knowers;"));
        due("what it is on aside", x.mean(2, 5), 7000);
        due("met", x.tell(0, 1, 2), 0);
        due("met or not", x.mean(2, 0), 14000);
        due("holds, met or not", x.holds(2, 0), 1000000);
        PaidSecrets top = Check.of(chain(1, "worth 5000;"));
        due("999 at most", top.mean(0, 30), 999000);
        PaidSecrets low = Check.of(chain(1, "worth 0-5000;"));
        due("0 at least", low.mean(0, 30), 0);
        due("0 is no less than 0", low.holds(0, 30), 1000000);
        PaidSecrets aged = Check.of(chain(1, "worth age*10+high;"));
        aged.quarter();
        aged.rise(1);
        due("as old as it is now", aged.mean(0, 30), 13000);
        PaidSecrets wave = Check.of(THREE + "secret s true of b costs 9 by a;ear a b 5;ear a c 5;worth knowers=2;");
        due("0.5 that just one heard it", wave.mean(0, 1), 500);
        due("all are no less than 0", wave.holds(0, 1), 1000000);
        due("told", wave.tell(0, 1, 0), 1);
        due("0.5", wave.holds(0, 1), 500000);
    }

    private static void nightsOfOneInAMillion() {
        String lucky = "person a plain rank 1 tax 0;person b plain rank 1 tax 0;person c deaf rank 1 tax 0;"
            + "secret s true of b costs 90 by a;ear a b 8;ear b c 10;worth knowers;";
        int untold = 1000000;
        int told = 0;
        int both = 0;
        for (int night = 0; night <= 30; night++) {
            PaidSecrets x = Check.of(lucky);
            due("what is cut is lost, nothing else, night " + night, x.holds(0, night), untold + told + both);
            due("worths", x.mean(0, night), (untold + 2 * told + 3 * both) / 1000);
            both += told;
            told = (int) (800000L * untold / 1000000);
            untold = (int) (200000L * untold / 1000000);
        }
        due("the last ones", Check.of(lucky).holds(0, 10), 999997);
        PaidSecrets cut = Check.of("person a plain rank 1 tax 0;person b plain rank 1 tax 0;"
            + "secret s true of b costs 90 by a;ear a b 3;worth 1;");
        due("six nights lose none", cut.holds(0, 6), 1000000);
        due("1.000", cut.mean(0, 6), 1000);
        due("the seventh loses one", cut.holds(0, 7), 999999);
        due("0.999999 is cut", cut.mean(0, 7), 999);
        PaidSecrets first = Check.of(THREE + "secret s true of b costs 90 by c;ear c a 4;ear b a 10;ear a b 10;");
        due("the first one hears", first.mean(0, 1), 90000 * 6 / 10 + 45000 * 4 / 10);
        due("60 percent", first.holds(0, 1), 600000);
        due("and tells the second", first.mean(0, 2), 32400 + 10800 + 12000);
        PaidSecrets last = Check.of(SIX + "secret s true of b costs 60 by f;ear f e 5;ear e f 10;ear f a 10;");
        due("the last one tells", last.mean(0, 1), 25000);
    }

    // ---- SETTLE: "the fewest payments by which all NETS are 0"

    private static void settleOfNets() {
        StringBuilder text = new StringBuilder(SIX);
        for (int i = 0; i < 6; i++) {
            text.append("secret ").append((char) ('m' + i)).append(" true of ").append((char) ('a' + i))
                .append(" costs ").append(1 << i).append(" by a b c d e f;");
        }
        String town = text + "worth cost;";
        PaidSecrets x = Check.of(town);
        due("nobody owes", x.settle(), 0);
        x.lend(0, 5, 5);
        due("one to one", x.settle(), 1);
        x.lend(1, 0, 0);
        due("a row of three", x.settle(), 2);
        x.lend(2, 3, 3);
        due("and a pair", x.settle(), 3);
        x.undo();
        due("undone", x.settle(), 2);
        x.quarter();
        due("a quarter settles nothing", x.settle(), 2);
        PaidSecrets worthless = Check.of(SIX + "secret m true of a costs 9 by a b;worth 0;");
        due("by a worth of 0", worthless.lend(1, 0, 0), 0);
        due("nothing is owed", worthless.settle(), 0);
        PaidSecrets both = Check.of(SIX + "secret m true of a costs 9 by a b;secret n true of b costs 9 by a b;");
        both.lend(0, 1, 1);
        due("one owes", both.settle(), 1);
        both.lend(1, 0, 0);
        due("the same back", both.settle(), 0);
    }

    // ---- FEAST: "its WORTH by how many chose it, cut (none: 0), less 1 if any"

    private static void rests(String town, int people, int... want) {
        PaidSecrets x = Check.of(town);
        due("rests of " + people, x.rests(people, NONE), want.length);
        for (int i = 0; i < want.length; i++) {
            due("rests of " + people + ", " + i, x.rests(people, i), want[i]);
        }
        due("none behind", x.rests(people, want.length), NONE);
    }

    private static void feastOfWorths() {
        String three = THREE + "secret s true of a costs ";
        rests(three + "1 by a;", 3, 0, 11);
        rests(three + "2 by a;", 3, 11);
        rests(three + "1 by a;worth 0;", 3, 0);
        rests(three + "9 by a b;worth 2;", 3, 1, 11, 12);
        rests(three + "9 by a b;worth 3;", 3, 1, 11, 12);
        rests(three + "9 by a b;worth 4;", 3, 12);
        rests(three + "9 by a b c;worth 5;", 7, 12, 122, 132, 133);
        rests(three + "9 by a b c;worth 6;", 7, 133);
        rests(THREE, 3, 0);
        rests(THREE, 7, 0);
        String pair = three + "9 by a b;secret t true of a costs 9 by a b;";
        rests(pair + "worth 9;", 3, 13, 23);
        rests(pair + "worth cost*2-knowers;", 6, 11, 22);
        StringBuilder ten = new StringBuilder(THREE);
        for (char c = 'k'; c < 'k' + 10; c++) {
            ten.append("secret ").append(c).append(" true of a costs 9 by a b c;");
        }
        PaidSecrets x = Check.of(ten + "worth 9;");
        due("three of ten, not the same one", x.rests(7, NONE), 720);
        due("the least", x.rests(7, 0), 1 * 121 + 2 * 11 + 3);
        due("the greatest", x.rests(7, 719), 10 * 121 + 9 * 11 + 8);
        due("none behind", x.rests(7, 720), NONE);
    }

    // ---- DRAWS: "g becomes (g * 1103515245 + 12345) modulo 2147483648 .. g / 65536, cut, modulo m"

    private static void seedsDrawn() {
        int[][] first = {{0, 0}, {5, 5}, {7, 4}, {8, 4}, {50, 5}, {1, 8}, {16, 9}, {13, 0}};
        for (int[] seed : first) {
            for (int chance = 0; chance <= 10; chance++) {
                String text = "person a plain rank 1 tax 0;person b plain rank 1 tax 0;"
                    + "secret s true of b costs 10 by a;ear a b " + chance + ";";
                due("seed " + seed[0] + " of " + chance, Check.of(text).years(seed[0], 1, 0), seed[1] < chance ? 1 : 0);
                due("a gossip by " + seed[0] + " of " + chance, Check.of(text.replace("a plain", "a gossip"))
                    .years(seed[0], 1, 0), seed[1] < chance + 1 ? 1 : 0);
            }
        }
    }

    // ---- YEARS: "behind each 10th night those who have a tax PAY by numbers, each the LEAST if he can, then the QUARTER"

    private static void quartersInYears() {
        String owing = "person a plain rank 1 tax 10;person b plain rank 1 tax 10;"
            + "secret s true of b costs 20 by a b;secret t true of b costs 30 by a;";
        int[] nights = {1, 9, 10, 11, 19, 20, 29, 30, 99, 100};
        for (int night : nights) {
            due("a pays by s, b has none left " + night, Check.of(owing).years(3, night, 1), night / 10);
        }
        String other = owing.replace("costs 20 by a b", "costs 60 by a b");
        due("a pays by s of 30, the least set", Check.of(other).years(3, 10, 1), 1);
        String cheap = owing.replace("costs 30 by a", "costs 10 by a");
        due("a pays by t of 10, the least set", Check.of(cheap.replace("costs 20", "costs 22")).years(3, 10, 1), 0);
        due("by numbers", Check.of("person a plain rank 1 tax 10;person b plain rank 1 tax 10;"
            + "secret s true of b costs 20 by a b;secret t true of b costs 30 by b;").years(3, 100, 1), 0);
        due("who has no tax does not pay", Check.of("person a plain rank 1 tax 0;person b plain rank 1 tax 10;"
            + "secret s true of b costs 20 by a b;").years(3, 100, 1), 0);
        due("the age is the quarters", Check.of(owing + "worth age*10;").years(3, 99, 2), 180);
        due("behind the 100th", Check.of(owing + "worth age*10;").years(3, 100, 2), 200);
        due("paid by the worth ahead of the quarter", Check.of(owing + "worth age*10;").years(3, 20, 1), 3);
    }

    private static void sixInYears() {
        String six = SIX.replace("tax 0", "tax 9");
        due("six fined each quarter", Check.of(six).years(1, 100, 1), 60);
        StringBuilder text = new StringBuilder(six);
        for (char c = 'a'; c <= 'f'; c++) {
            text.append("secret ").append((char) (c + 12)).append(" true of a costs 9 by ").append(c).append(';');
        }
        due("six pay", Check.of(text.toString()).years(1, 100, 1), 0);
        due("five pay", Check.of(text.toString().replace("f plain rank 0 tax 9", "f plain rank 0 tax 10"))
            .years(1, 100, 1), 10);
    }

    private static void yearsFromNowOn() {
        String town = "person a plain rank 1 tax 10;person b plain rank 1 tax 10;"
            + "secret s false of b costs 20 by a;secret t true of b costs 30 by b;ear a b 10;";
        PaidSecrets x = Check.of(town);
        due("told and met", x.years(4, 100, 0) * 100 + x.years(4, 100, 2), 130);
        due("a is fined each quarter", x.years(4, 100, 1), 10);
        x.quarter();
        due("from now on only", x.years(4, 100, 1), 10);
        due("paid", x.pay(0, 1), 20);
        due("he has paid the first", x.years(4, 100, 1), 9);
        due("told by hand", x.tell(0, 1, 0), 0);
        due("none to tell", x.years(4, 100, 0), 0);
        PaidSecrets y = Check.of(town);
        y.quarter();
        y.pay(0, 1);
        y.tell(0, 1, 0);
        same("all is as ahead then", x, y);
        due("undone", x.undo(), true);
        due("to tell again", x.years(4, 100, 0), 1);
    }

    // ---- MARKS: "0 to 3 hold who knows what, who is aware, ranks, what is MET, PAID, FINED, lent, the QUARTER, .."

    private static void marksHoldEach() {
        for (int change = 0; change < 8; change++) {
            for (int mark = 0; mark < 4; mark++) {
                PaidSecrets x = town();
                due("laid", x.mark(mark, false), true);
                change(x, change);
                due("it changes something", Check.all(x).equals(Check.all(town())), false);
                due("back", x.mark(mark, true), true);
                same("back from " + change, x, town());
                change(x, change);
                PaidSecrets y = town();
                change(y, change);
                same("as the first time", x, y);
            }
        }
    }

    private static void change(PaidSecrets x, int change) {
        switch (change) {
            case 0:
                due("known, aware", x.tell(1, 0, 0), 4);
                break;
            case 1:
                due("met", x.tell(0, 1, 2), 0);
                break;
            case 2:
                due("rank", x.rise(1), 3);
                break;
            case 3:
                due("paid", x.pay(0, 2), 9);
                break;
            case 4:
                due("fined, quarter", x.quarter(), 1);
                break;
            case 5:
                due("lent", x.lend(0, 1, 2), 17);
                break;
            case 6:
                due("gossip", Check.gossip(x, "quarter;rise a;"), 0);
                break;
            default:
                due("seen", x.see(1, true), true);
        }
    }

    private static void marksGoneBackTo() {
        PaidSecrets x = town();
        change(x, 0);
        change(x, 3);
        change(x, 6);
        change(x, 7);
        due("laid", x.mark(2, false), true);
        due("laying leaves what can be undone", x.count(9), 2);
        PaidSecrets y = town();
        change(y, 0);
        change(y, 3);
        change(y, 6);
        change(y, 7);
        same("laying changes nothing", x, y);
        y.mark(0, false);
        y.mark(0, true);
        for (int i = 0; i < 2; i++) {
            due("nobody is fined", x.quarter(), 0);
            change(x, 5);
            change(x, 2);
            x.see(2, false);
            due("another gossip", Check.gossip(x, "rise b;"), 0);
            due("fed", Check.feed(x, "xyz"), 3);
            due("gone back to", x.mark(2, true), true);
            due("the tape stays", x.count(10), 3);
            due("taken", x.gossip() & 15, 1);
            same("as it was laid", x, y);
            due("nothing can be undone", x.undo(), false);
        }
        due("an act", x.rise(0), 2);
        due("can be undone", x.undo(), true);
        due("no more", x.undo(), false);
        same("as it was laid", x, y);
        due("gone back to with nothing changed", x.mark(2, true), true);
        same("as it was laid", x, y);
        due("a fault of a town", Check.town(x, "person;"), 1 + 16 * 6);
        due("leaves the mark", x.mark(2, true), true);
        due("a town", Check.town(x, TOWN), 0);
        due("does not", x.mark(2, true), false);
        same("the town is as told", x, town());
    }

    private static void marksLaidOver() {
        PaidSecrets x = town();
        for (int mark = 0; mark < 4; mark++) {
            due("laid", x.mark(mark, false), true);
            due("rise", x.rise(0), mark + 2);
        }
        for (int mark = 3; mark >= 0; mark--) {
            due("back", x.mark(mark, true), true);
            due("the rank by then", Check.person(x, 0, 1), mark + 1);
        }
        for (int mark = 0; mark < 4; mark++) {
            due("and forth", x.mark(mark, true), true);
            due("the rank by then", Check.person(x, 0, 1), mark + 1);
        }
        due("laid over", x.mark(0, false), true);
        due("rise", x.rise(0), 5);
        due("laid over once more", x.mark(1, false), true);
        due("back to 0", x.mark(0, true), true);
        due("it holds the later", Check.person(x, 0, 1), 4);
        due("back to 1", x.mark(1, true), true);
        due("it holds the later", Check.person(x, 0, 1), 5);
        due("back to 2", x.mark(2, true), true);
        due("others hold theirs", Check.person(x, 0, 1), 3);
        due("a mark from a mark", x.mark(3, false), true);
        due("back to 3", x.mark(3, true), true);
        due("the same", Check.person(x, 0, 1), 3);
    }

    private static void marksHoldEachSight() {
        PaidSecrets x = town();
        x.mark(0, false);
        x.see(0, true);
        x.see(1, false);
        x.mark(1, false);
        leaks(x, 1, 2, 2, 2);
        x.mark(0, true);
        leaks(x, 4, 0, 3, 0);
        x.see(0, false);
        x.see(1, true);
        x.mark(2, false);
        leaks(x, 1, 1, 1, 1);
        x.mark(1, true);
        leaks(x, 1, 2, 2, 2);
        x.mark(2, true);
        leaks(x, 1, 1, 1, 1);
        x.see(2, false);
        leaks(x, 0, NONE, NONE, NONE);
        x.mark(2, true);
        leaks(x, 1, 1, 1, 1);
        due("gossip", Check.gossip(x, "rise a;rise b;"), 0);
        x.mark(3, false);
        due("another gossip", Check.gossip(x, "tell a b s;quarter;"), 0);
        x.mark(1, false);
        x.mark(3, true);
        asked("two rises", new int[] {x.count(6), x.judged(0), x.judged(1)}, 2, NONE, 0);
        x.mark(1, true);
        asked("a telling that can't be", new int[] {x.count(6), x.judged(0), x.judged(1)}, 2, 0, 1);
        x.mark(2, true);
        asked("none", new int[] {x.count(6), x.judged(0), x.judged(1)}, 0, NONE, 0);
    }

    // ---- a TOWN of one PERSON, of PEOPLE without SECRETS, one of no PEOPLE

    private static void onePerson() {
        PaidSecrets x = Check.of("person a gossip rank 8 tax 1;secret s false of a costs 1 by a;");
        asked("person", new int[] {Check.person(x, 0, 3), Check.person(x, 0, 4), Check.person(x, 0, 7)}, 1, 1, 0);
        asked("alone", new int[] {x.aware(0, 0, 0), x.ear(0, 0), x.tell(0, 0, 0), x.lend(0, 0, 0), x.rests(1, NONE),
            x.tell(0, 1, 0), x.aware(0, 1, 0)}, NONE, NONE, NONE, NONE, NONE, NONE, NONE);
        due("plot", Check.plot(x, 0, 0, 0, 0), Check.THROWN);
        due("plot", Check.plot(x, 0, 1, 0, 0), Check.THROWN);
        asked("taxes", new int[] {x.least(0), x.payers(), x.settle()}, 1, 1, 0);
        leaks(x, 2, 0, 1, 0);
        x.see(0, true);
        leaks(x, 1, 1, 1, 1);
        asked("nights", new int[] {x.mean(0, 30), x.holds(0, 30)}, 1000, 1000000);
        asked("years", new int[] {x.years(0, 100, 0), x.years(0, 100, 1), x.years(0, 100, 2)}, 0, 0, 1);
        due("a tax of 1 not paid", x.quarter(), 1);
        due("fined", Check.person(x, 0, 6), 1);
        due("paid", x.pay(0, 1), 1);
        due("not fined", x.quarter(), 0);
        due("rise", x.rise(0) * 10 + x.rise(0), 89);
    }

    // ---- a TOWN of PEOPLE without SECRETS, one of no PEOPLE

    private static void noSecrets() {
        PaidSecrets x = Check.of(TWO + "person c gossip rank 9 tax 7;ear a b 10;ear c a 4;worth 50;");
        int[] counts = {3, 0, 2, 0, 0, 0, 0, 0, 0, 0, 0};
        for (int what = 0; what < counts.length; what++) {
            due("count " + what, x.count(what), counts[what]);
        }
        for (int person = 0; person < 3; person++) {
            due("knows nothing", Check.person(x, person, 3) + Check.person(x, person, 4), 0);
            due("least", x.least(person), NONE);
            due("pay by none", x.pay(person, 0), NONE);
            due("pay", x.pay(person, 1), NONE);
            due("tell", x.tell(person, 1 - person / 2, 0), NONE);
            due("lend", x.lend(person, 1 - person / 2, 0), NONE);
        }
        due("secret", x.secret(0, 0), NONE);
        due("aware", x.aware(0, 1, 0), NONE);
        due("ear", x.ear(2, 0), 5);
        due("payers", x.payers(), 0);
        for (int many = 0; many <= 2; many++) {
            plot("without secrets", x, many, 0, 0, NONE, NONE);
        }
        due("see", x.see(0, true), false);
        leaks(x, 8, 0, 7, 0);
        asked("lies", new int[] {x.lies(0), x.lies(1), x.lies(2), x.lies(3)}, 0, 0, 1, 0);
        due("mean", x.mean(0, 0), NONE);
        due("holds", x.holds(0, 0), NONE);
        due("settle", x.settle(), 0);
        for (int people : new int[] {3, 5, 6, 7}) {
            asked("rests", new int[] {x.rests(people, NONE), x.rests(people, 0), x.rests(people, 1)}, 1, 0, NONE);
        }
        for (int nights : new int[] {1, 9, 10, 19, 20, 100}) {
            asked("years", new int[] {x.years(5, nights, 0), x.years(5, nights, 1), x.years(5, nights, 2)}, 0,
                nights / 10 * 2, 0);
        }
        due("a pay in a gossip", Check.gossip(x, "pay a s;"), 2 + 16 * 6);
        due("a gossip", Check.gossip(x, "rise c;quarter;rise a;"), 0);
        asked("judged", new int[] {x.judged(0), x.judged(1), x.judged(2)}, 0, 2, 0);
        due("quarter", x.quarter(), 5);
        due("rise", x.rise(1), 3);
        due("undo", x.undo() && x.undo(), true);
        due("mark", x.mark(0, false) && x.mark(0, true), true);
    }

    private static void asked(String call, int[] got, int... want) {
        for (int i = 0; i < want.length; i++) {
            due(call + " " + i, got[i], want[i]);
        }
    }

    private static void noPeople() {
        empty(new PaidSecrets());
        empty(Check.of(""));
        empty(Check.of("worth 7;"));
        PaidSecrets x = town();
        x.quarter();
        x.mark(0, false);
        due("a town of nobody", x.town(), 0);
        empty(x);
    }

    private static void empty(PaidSecrets x) {
        for (int what = 0; what <= 10; what++) {
            due("count " + what, x.count(what), 0);
        }
        for (int what = -1; what <= 9; what++) {
            due("person", Check.person(x, 0, what), Check.THROWN);
            due("secret", x.secret(0, what), NONE);
            due("plot", Check.plot(x, 0, 1, 0, what), Check.THROWN);
        }
        asked("calls", new int[] {x.aware(0, 1, 0), x.ear(0, 1), x.tell(0, 1, 0), x.pay(0, 0), x.pay(0, 1), x.rise(0),
            x.lend(0, 1, 0), x.least(0), x.mean(0, 0), x.holds(0, 0), x.rests(0, NONE), x.rests(3, NONE), x.rests(7, 0)},
            NONE, NONE, NONE, NONE, NONE, NONE, NONE, NONE, NONE, NONE, NONE, NONE, NONE);
        due("undo", x.undo(), false);
        due("see", x.see(0, true) || x.see(0, false), false);
        due("payers", x.payers(), 0);
        due("settle", x.settle(), 0);
        leaks(x, 1, 0, 0, 0);
        asked("lies", new int[] {x.lies(0), x.lies(1), x.lies(2), x.lies(3)}, 0, 0, 1, 0);
        asked("judged", new int[] {x.judged(0), x.judged(1), x.judged(2)}, NONE, 0, 0);
        asked("years", new int[] {x.years(0, 100, 0), x.years(0, 100, 1), x.years(9999, 1, 2)}, 0, 0, 0);
        due("back at nothing", x.mark(0, true), false);
        due("mark", x.mark(0, false), true);
        due("quarter", x.quarter(), 0);
        due("quarters", x.count(4), 1);
        due("undo", x.undo(), true);
        due("quarter", x.quarter(), 0);
        due("back", x.mark(0, true), true);
        due("quarters", x.count(4), 0);
        due("undo", x.undo(), false);
        due("a gossip of nobody", Check.gossip(x, "rise a;"), 2 + 16 * 5);
        due("quarters can", Check.gossip(x, "quarter;quarter;"), 0);
        asked("judged", new int[] {x.judged(0), x.judged(1), x.judged(2)}, NONE, 0, 0);
        due("a town", Check.town(x, TOWN), 0);
        due("people", x.count(0), 2);
    }
}
