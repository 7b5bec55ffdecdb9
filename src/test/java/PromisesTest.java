import java.util.ArrayList;
import java.util.List;

/** The promises one by one: ordinary inputs, the edges that the document names, and wrong inputs. */
public final class PromisesTest {
    private static final int NONE = PaidSecrets.NONE;
    private static final String PEOPLE = "person ann plain rank 3 tax 20;person ben gossip rank 5 tax 12;"
        + "person cis deaf rank 0 tax 0;person dan priest rank 9 tax 30;person eve plain rank 8 tax 7;";
    private static final String SECRETS = "secret one true of dan costs 30 by ann;"
        + "secret two false of ben costs 24 by ann cis;secret three true of ann costs 9 on one by ben;"
        + "secret four true of cis costs 50 by dan ben;"
        + "secret five false of eve costs 99 on three by ann ben cis dan eve;";
    private static final String PAIRS = "ear ann ben 5;ear ben cis 10;ear cis ann 7;ear ben ann 0;ear dan eve 3;"
        + "clash two three;clash one two;clash four five;";
    private static final String TOWN = PEOPLE + SECRETS + PAIRS;
    private static final String TWO = "person a plain rank 1 tax 5;person b plain rank 2 tax 0;";
    private static final String SIX = "person a plain rank 0 tax 0;person b plain rank 0 tax 0;"
        + "person c plain rank 0 tax 0;person d plain rank 0 tax 0;person e plain rank 0 tax 0;"
        + "person f plain rank 0 tax 0;";

    private PromisesTest() {
    }

    public static void main(String[] args) {
        newObject();
        feeding();
        tokens();
        townFaults();
        lawFaults();
        townReset();
        lawValues();
        gossipRead();
        people();
        secrets();
        ears();
        tellings();
        metOnes();
        payments();
        risings();
        quarters();
        loans();
        undone();
        judgements();
        leasts();
        payersAtOnce();
        plots();
        sights();
        falsehoods();
        nights();
        settlements();
        feasts();
        years();
        marks();
        counts();
        Check.end();
    }

    private static void due(String call, long got, long want) {
        Check.due(call, got, want);
    }

    private static void due(String call, boolean got, boolean want) {
        Check.due(call, got, want);
    }

    // ---- promise 1

    private static void newObject() {
        PaidSecrets x = new PaidSecrets();
        for (int what = 0; what <= 10; what++) {
            due("new count " + what, x.count(what), 0);
        }
        due("new undo", x.undo(), false);
        due("new mark back", x.mark(0, true), false);
        due("new person", Check.person(x, 0, 0), Check.THROWN);
        due("new plot", Check.plot(x, 0, 1, 0, 0), Check.THROWN);
        due("new secret", x.secret(0, 0), NONE);
        due("new ear", x.ear(0, 1), NONE);
        due("new see", x.see(0, true), false);
        due("new rests", x.rests(3, NONE), NONE);
        due("new leaks", x.leaks(3), 0);
        due("new lies", x.lies(1), 0);
        due("new tell", x.tell(0, 1, 0), NONE);
        due("new pay", x.pay(0, 1), NONE);
        due("new years", x.years(1, 100, 2), 0);
        due("new gossip", x.gossip(), 0);
        due("new judged", x.judged(2), 0);
        due("empty town", x.town(), 0);
    }

    // ---- promise 2

    private static void feeding() {
        PaidSecrets x = new PaidSecrets();
        due("signs left out", x.feed(0x0001090b0d1f7f80L, 0xffffffffffffffffL, 0x1b00000000000000L), 0);
        due("signs kept", x.feed(0x0a20217e00000000L, 0, 0x6100000000000000L), 5);
        due("count of signs", x.count(10), 5);
        due("! is none", x.town(), 1 + 16 * 2);
        due("taken with a fault", x.count(10), 0);
        for (int i = 1; i <= 41; i++) {
            due("feed " + i, x.feed(0x2020202020202020L, 0x2020202020202020L, 0x2020202020202020L), 24 * i);
        }
        due("up to 1000", x.feed(0x2020202020202020L, 0x2020202020202020L, 0x2020202020202020L), 1000);
        due("beyond 1000", x.feed(0x6161616161616161L, 0, 0), 1000);
        due("blanks are a town", x.town(), 0);
        due("taken", x.count(10), 0);
        due("the highest byte first", Check.feed(x, "quarter;"), 8);
        due("read as fed", x.gossip(), 0);
        due("one line", x.count(6), 1);
    }

    // ---- promise 3

    private static void fault(int kind, String marked) {
        Check.townFault(kind, marked);
    }

    private static void tokens() {
        fine("person abcdefgh plain rank 0009tax 0999;");
        fine("\nperson\na\nplain\nrank\n1\ntax\n2\n;\n");
        fine("person cost plain rank 1 tax 1;person age deaf rank 1 tax 1;secret high true of cost costs 1 by age;");
        fine("person knowers plain rank 1tax 1;worth knowers;");
        fine("person zaz plain rank 1 tax 1;person azz plain rank 1 tax 1;secret z true of zaz costs 1 by azz;");
        fault(1, "person ^abcdefghi plain rank 1 tax 1;");
        fault(1, "person a plain rank ^00001 tax 1;");
        fault(1, "person a plain rank 1 tax ^12345;");
        fault(1, "person a^1 plain rank 1 tax 1;");
        fault(1, "person ^A plain rank 1 tax 1;");
        fault(1, "person a plain rank 1 tax 1^:");
        fault(1, "^;");
        fault(1, "^1");
        fault(1, "^tell a b c;");
        fault(1, "^quarter;");
    }

    private static void fine(String text) {
        Check.fine(text);
    }

    private static void townFaults() {
        for (String word : new String[] {"person", "rank", "tax", "secret", "of", "costs", "on", "by", "ear", "clash",
            "worth", "tell", "pay", "rise", "quarter", "plain", "gossip", "deaf", "priest", "true", "false", "not",
            "and", "or"}) {
            fault(1, "person ^" + word + " plain rank 1 tax 1;");
        }
        fault(1, "person^");
        fault(1, "person  ^");
        fault(1, "person a^");
        fault(1, "person a ^rank 1 tax 1;");
        fault(1, "person a plain ^tax 1;");
        fault(1, "person a plain rank ^x tax 1;");
        fault(4, "person a plain rank ^10 tax 1;");
        fault(4, "person a plain rank 9 tax ^1000;");
        fault(1, "person a plain rank 9 tax 999 ^person");
        fault(3, TWO + "person ^a plain rank 1 tax 1;");
        fault(5, SIX + "^person g plain rank 0 tax 0;");
        String s = TWO + "secret s true of a costs 1 by b;";
        fault(3, s + "person ^s plain rank 1 tax 1;");
        fault(3, s + "secret ^s true of a costs 1 by b;");
        fault(3, s + "secret ^a true of a costs 1 by b;");
        fault(1, s + "secret ^true true of a costs 1 by b;");
        fault(1, s + "secret t ^maybe of a costs 1 by b;");
        fault(1, s + "secret t true ^a costs 1 by b;");
        fault(1, s + "secret t true ^on s by b;");
        fault(1, s + "secret t true ^by b;");
        fault(2, s + "secret t true of ^s costs 1 by b;");
        fault(2, s + "secret t true of ^x costs 1 by b;");
        fault(1, s + "secret t true of ^of costs 1 by b;");
        fault(1, s + "secret t true of a ^by b;");
        fault(4, s + "secret t true of a costs ^0 by b;");
        fault(4, s + "secret t true of a costs ^100 by b;");
        fault(1, s + "secret t true of a costs 99 ^b;");
        fault(1, s + "secret t true of a costs 99^;");
        fault(2, s + "secret t true of a costs 99 on ^a by b;");
        fault(2, s + "secret t true of a costs 99 on ^t by b;");
        fault(1, s + "secret t true of a costs 99 on ^by b;");
        fault(1, s + "secret t true of a costs 99 on s ^on s by b;");
        fault(1, s + "secret t true of a costs 99 on s by^;");
        fault(2, s + "secret t true of a costs 99 on s by ^s;");
        fault(3, s + "secret t true of a costs 99 on s by a b ^a;");
        fault(1, s + "secret t true of a costs 99 on s by a b ^1;");
        fault(1, s + "secret t true of a costs 99 on s by a b^");
        pairFaults(s + "secret t true of a costs 1 by b;");
        StringBuilder ten = new StringBuilder(TWO);
        for (char c = 'k'; c < 'k' + 10; c++) {
            ten.append("secret ").append(c).append(" true of a costs 1 by b;");
        }
        fine(ten.toString());
        fault(5, ten + "^secret u true of a costs 1 by b;");
        PaidSecrets x = Check.of(ten.toString());
        due("pay by ten", Check.gossip(x, "pay b k l m n o p q r s t;"), 0);
        due("all ten", x.judged(0), NONE);
        due("pay by eleven", Check.gossip(x, "pay b k l m n o p q r s t t;"), 3 + 16 * 26);
    }

    private static void pairFaults(String s) {
        fine(s + "ear a b 0;ear b a 10;clash s t;");
        fault(2, s + "ear ^s b 1;");
        fault(2, s + "ear a ^t 1;");
        fault(3, s + "ear a ^a 1;");
        fault(2, "ear ^a a 1;");
        fault(1, s + "ear a ^1;");
        fault(4, s + "ear a b ^11;");
        fault(1, s + "ear a b ^;");
        fault(3, s + "ear a b 1;ear a ^b 2;");
        fault(2, s + "clash ^a t;");
        fault(2, s + "clash s ^b;");
        fault(3, s + "clash s ^s;");
        fault(3, s + "clash s t;clash s ^t;");
        fault(3, s + "clash s t;clash t ^s;");
        fault(1, s + "clash s t ^s;");
        fault(3, s + "worth 1;^worth 2;");
    }

    private static void lawFaults() {
        fault(1, "worth ^;");
        fault(1, "worth^");
        fault(1, "worth 1^");
        fault(1, "worth 1 ^1;");
        fault(1, "worth cost ^knowers;");
        fault(1, "worth 1+^;");
        fault(1, "worth ^-1;");
        fault(1, "worth 1<2^<3;");
        fault(1, "worth 1=2^<3;");
        fault(1, "worth 1 ^not 1;");
        fault(1, "worth not^;");
        fault(1, "worth (1^;");
        fault(1, "worth 1^);");
        fault(1, "worth (^);");
        fault(1, "worth ^tip;");
        fault(1, "worth ^costs;");
        fault(1, "worth ^12345;");
        fault(1, "worth 1 and ^or 1;");
        fault(1, "worth 1<^and 1;");
        fault(1, "worth 1+^and 1;");
        fault(1, "worth 1*^+1;");
        fine("worth ((((1))));");
        fine("worth not not not not 1;");
        fine("worth (1)+(2)*(3)+(not(not 1))+((((4))));");
        fault(5, "worth (((((^1)))));");
        fault(5, "worth (((((^(");
        fault(5, "worth not not not not not ^1;");
        fault(5, "worth not not not not not ^not 1;");
        fault(5, "worth not(not(not^(cost)));");
        fault(5, "worth 1+(((not(^knowers))));");
        for (String sign : new String[] {" and ", " or ", "<", "=", "+", "-", "*"}) {
            fault(5, "worth ((((1" + sign + "(^1)))));");
            fault(5, "worth not not not(1" + sign + "not ^high);");
        }
        fault(1, "worth (((((^;");
        fault(1, "worth (((((^)");
        fault(1, "worth (((((^tip");
        fault(1, "worth not not not not not^");
    }

    private static void townReset() {
        PaidSecrets x = Check.of(TOWN);
        x.tell(0, 1, 0);
        x.mark(2, false);
        x.see(0, true);
        x.quarter();
        x.rise(0);
        x.lend(0, 3, 0);
        due("gossip", Check.gossip(x, "rise ann;"), 0);
        due("with a fault", Check.town(x, "person x plain rank 1 tax 1;oops"), 1 + 16 * 28);
        due("people stay", x.count(0), 5);
        due("quarter stays", x.count(4), 1);
        due("gossip stays", x.count(6), 1);
        due("seen stays", x.count(7), 1);
        due("loans stay", x.count(8), 1);
        due("undo stays", x.count(9), 4);
        due("rank stays", Check.person(x, 0, 1), 4);
        due("knowers stay", x.secret(0, 4), 3);
        due("mark stays", x.mark(2, true), true);
        x.quarter();
        due("the same once more", Check.town(x, TOWN), 0);
        for (int what = 4; what <= 10; what++) {
            due("anew " + what, x.count(what), what == 5 ? 194 : 0);
        }
        due("knowers as told", x.secret(0, 4), 1);
        due("nobody aware", x.aware(0, 1, 0), 0);
        due("rank as told", Check.person(x, 0, 1), 3);
        due("not fined", Check.person(x, 0, 6), 0);
        due("nothing owed", Check.person(x, 0, 7), 0);
        for (int mark = 0; mark < 4; mark++) {
            due("no mark", x.mark(mark, true), false);
        }
        due("no undo", x.undo(), false);
        due("less", Check.town(x, TWO), 0);
        due("people less", x.count(0), 2);
        due("no secrets", x.count(1), 0);
        due("no ears", x.count(2) + x.count(3), 0);
        due("no ear", x.ear(0, 1), NONE);
        due("no third", Check.person(x, 2, 0), Check.THROWN);
    }

    // ---- the law of worth

    private static void law(String e, int want) {
        PaidSecrets x = new PaidSecrets();
        due("town of worth " + e, Check.town(x, "person a plain rank 7 tax 0;person b priest rank 2 tax 0;"
            + "secret s true of a costs 40 by a b;worth " + e + ";"), 0);
        due("worth " + e, x.secret(0, 6), want);
    }

    private static void lawValues() {
        law("5", 5);
        law("2+3*4", 14);
        law("2*3+4", 10);
        law("10-3-2", 5);
        law("10-(3-2)", 9);
        law("2-3", 0);
        law("0-5+7", 2);
        law("999", 999);
        law("1000", 999);
        law("9999*9999*9999", 0);
        law("9999*9999*9999*9999", 999);
        law("1<2", 1);
        law("2<1", 0);
        law("2<2", 0);
        law("3=3", 1);
        law("3=4", 0);
        law("0-1<0", 1);
        law("1+1<1+2", 1);
        law("not 0", 1);
        law("not 5", 0);
        law("not 0*7", 7);
        law("not(0*7)+3", 4);
        law("not not 9", 1);
        law("1 or 1 and 0", 0);
        law("1 and 0 or 1", 1);
        law("5 and 0-3", 1);
        law("0 or 8", 1);
        law("0 or 0", 0);
        law("(1 and 1)+(0 or 1)", 2);
        law("1<2 and 2<3", 1);
        law("1 and 2<1", 0);
        law("cost", 40);
        law("knowers", 1);
        law("high", 7);
        law("age", 0);
        law("cost*2-knowers*10+high+age", 77);
        String deep = "0 or 2<1+2*(";
        law(deep + deep + deep + deep + "0 or 2<1+2*3" + "))))", 1);
        law(deep + deep + deep + deep + "0 or 7<1+2*3" + "))))", 0);
        law("1+2*(2+3*(3+4*(4+5*(5+6*7))))-5000", 759);
        wraps();
        longLaw();
        PaidSecrets x = Check.of("person a plain rank 7 tax 0;person b plain rank 2 tax 0;"
            + "secret s true of b costs 40 by a;worth cost+100*age+high*knowers;");
        due("at first", x.secret(0, 6), 42);
        x.quarter();
        due("an age more", x.secret(0, 6), 142);
        x.rise(1);
        due("higher", x.secret(0, 6), 143);
        x.rise(0);
        due("not he", x.secret(0, 6), 143);
        due("told", x.tell(0, 1, 0), 146);
        due("told", x.undo(), true);
        due("untold", x.secret(0, 6), 143);
    }

    /** As long as the TAPE lets it be: 1 and +1 so often. */
    private static void longLaw() {
        String town = "person a deaf rank 1 tax 1;secret s true of a costs 1 by a;worth 1";
        int more = (1000 - town.length() - 1) / 2;
        PaidSecrets x = Check.of(town + "+1".repeat(more) + ";");
        due("a long law", x.secret(0, 6), more + 1);
        due("none", Check.town(x, "worth 1" + "+1".repeat(496) + ";"), 0);
        due("cut off", Check.town(x, "worth 1" + "+1".repeat(500) + ";"), 1 + 16 * 1000);
    }

    /** 2^31 = 8192 * 8192 * 32 */
    private static void wraps() {
        law("8192*8192*32", 0);
        law("8192*8192*32-1<0", 0);
        law("8192*8192*32+8192*8192*32+12", 12);
        law("8192*8192*64+7", 7);
        law("0-8192*8192*32<0", 1);
        law("8192*8192*32-1", 999);
    }

    // ---- promise 4

    private static void gossipFault(int kind, String marked) {
        int place = marked.indexOf('^');
        PaidSecrets x = Check.of(TOWN);
        due("gossip", Check.gossip(x, "quarter;rise ann;"), 0);
        due("gossip of " + marked, Check.gossip(x, marked.substring(0, place) + marked.substring(place + 1)),
            kind + 16 * place);
        due("gossip stays", x.count(6), 2);
        due("tape is empty", x.count(10), 0);
    }

    private static void gossipRead() {
        gossipFault(1, "^person x plain rank 1 tax 1;");
        gossipFault(1, "^;");
        gossipFault(1, "quarter^");
        gossipFault(1, "quarter ^ann;");
        gossipFault(1, "rise^;");
        gossipFault(2, "rise ^one;");
        gossipFault(1, "rise ann ^ben;");
        gossipFault(1, "rise ^rise;");
        gossipFault(2, "tell ^one ben one;");
        gossipFault(2, "tell ann ^one one;");
        gossipFault(3, "tell ann ^ann one;");
        gossipFault(2, "tell ^xx xx one;");
        gossipFault(2, "tell ann ben ^ann;");
        gossipFault(1, "tell ann ben^;");
        gossipFault(1, "tell ann ben one ^two;");
        gossipFault(2, "pay ^one one;");
        gossipFault(1, "pay ann^;");
        gossipFault(2, "pay ann ^ben;");
        gossipFault(3, "pay ann one two ^one;");
        gossipFault(1, "pay ann one ^quarter;");
        gossipFault(1, "pay ann one ^");
        String thirty = "quarter;".repeat(30);
        gossipFault(5, thirty + "^quarter;");
        gossipFault(5, thirty + "^tell xx");
        gossipFault(1, thirty + "^oops;");
        gossipFault(1, thirty + "^;");
        PaidSecrets x = Check.of(TOWN);
        due("thirty", Check.gossip(x, thirty), 0);
        due("lines", x.count(6), 30);
        due("all of them", Check.gossip(x, " tell ann ben one ;\npay cis two five;rise dan; quarter;"), 0);
        due("lines", x.count(6), 4);
        due("none", x.gossip(), 0);
        due("lines", x.count(6), 0);
    }

    // ---- promises 5 to 8

    private static void people() {
        PaidSecrets x = Check.of(TOWN);
        int[][] want = {{0, 3, 20, 19, 105, 0, 0, 0}, {1, 5, 12, 28, 152, 0, 0, 0}, {2, 0, 0, 18, 75, 0, 0, 0},
            {3, 9, 30, 24, 113, 0, 0, 0}, {0, 8, 7, 16, 63, 0, 0, 0}};
        for (int p = 0; p < 5; p++) {
            for (int what = 0; what < 8; what++) {
                due("person " + p + " " + what, Check.person(x, p, what), want[p][what]);
            }
            due("person " + p + " 8", Check.person(x, p, 8), Check.THROWN);
            due("person " + p + " -1", Check.person(x, p, -1), Check.THROWN);
        }
        due("no person", Check.person(x, 5, 0), Check.THROWN);
        due("no person", Check.person(x, -1, 0), Check.THROWN);
        due("no person", Check.person(x, Integer.MAX_VALUE, 0), Check.THROWN);
    }

    private static void secrets() {
        PaidSecrets x = Check.of(TOWN);
        int[][] want = {{0, 3, 30, NONE, 1, 1, 30, 0, 0, 2}, {1, 1, 24, NONE, 5, 2, 12, 0, 0, 5},
            {0, 0, 9, 0, 2, 1, 39, 0, 0, 2}, {0, 2, 50, NONE, 10, 1, 50, 0, 0, 16}, {1, 4, 99, 2, 31, 4, 63, 0, 0, 8}};
        for (int s = 0; s < 5; s++) {
            for (int what = 0; what < 10; what++) {
                due("secret " + s + " " + what, x.secret(s, what), want[s][what]);
            }
            due("secret " + s + " 10", x.secret(s, 10), NONE);
            due("secret " + s + " -1", x.secret(s, -1), NONE);
        }
        due("no secret", x.secret(5, 0), NONE);
        due("no secret", x.secret(-1, 0), NONE);
        PaidSecrets y = Check.of(SIX + "secret s true of a costs 99 by a b c d e f;"
            + "secret t true of a costs 99 by a b c d;secret u true of a costs 1 by a b;"
            + "secret v true of a costs 9 on s by a b c d e;");
        due("nothing from the fifth", y.secret(0, 6), 0);
        due("by four", y.secret(1, 6), 24);
        due("cut", y.secret(2, 6), 0);
        due("five on six", y.secret(3, 6), 0);
        due("told to the fifth", y.tell(0, 4, 1), 0);
        PaidSecrets z = Check.of("person a priest rank 1 tax 0;secret s true of a costs 8 by a;");
        due("no knowers", z.secret(0, 5), 0);
        due("by 1 if there are none", z.secret(0, 6), 8);
    }

    private static void ears() {
        PaidSecrets x = Check.of(TOWN);
        int[][] want = {{0, 1, 5}, {1, 2, 10}, {2, 0, 7}, {1, 0, 1}, {3, 4, 3}, {4, 3, NONE}, {0, 0, NONE},
            {0, 5, NONE}, {5, 0, NONE}, {-1, 0, NONE}, {0, -1, NONE}, {1, 6, NONE}};
        for (int[] ear : want) {
            due("ear " + ear[0] + " " + ear[1], x.ear(ear[0], ear[1]), ear[2]);
        }
    }

    // ---- promise 9, and 7

    private static void tellings() {
        PaidSecrets x = Check.of(TOWN);
        due("not known", x.tell(0, 1, 2), NONE);
        due("to himself", x.tell(0, 0, 0), NONE);
        due("deaf", x.tell(2, 1, 1), NONE);
        due("priest", x.tell(3, 0, 3), NONE);
        due("known already", x.tell(0, 2, 1), NONE);
        due("nobody", x.tell(0, 5, 0), NONE);
        due("nobody", x.tell(5, 0, 0), NONE);
        due("nobody", x.tell(-1, 0, 0), NONE);
        due("nothing", x.tell(0, 1, 5), NONE);
        due("nothing", x.tell(0, 1, -1), NONE);
        due("nothing to undo", x.count(9), 0);
        due("half when two know it", x.tell(0, 1, 0), 15);
        due("on it", x.secret(2, 6), 24);
        due("on that", x.secret(4, 6), 48);
        due("by three", x.tell(0, 4, 0), 10);
        due("to the deaf", x.tell(1, 2, 0), 7);
        due("to the priest", x.tell(4, 3, 0), 7);
        due("all know it", x.secret(0, 4), 31);
        due("priests aside", x.secret(0, 5), 4);
        due("true, so not met", x.secret(0, 7), 0);
        due("aware", x.aware(0, 1, 0), 1);
        due("aware", x.aware(1, 0, 0), 1);
        due("aware", x.aware(4, 3, 0), 1);
        due("aware", x.aware(3, 4, 0), 1);
        due("not aware", x.aware(0, 3, 0), 0);
        due("not aware", x.aware(1, 4, 0), 0);
        due("not of another", x.aware(0, 1, 1), 0);
        due("of those told nobody is", x.aware(0, 2, 1), 0);
        due("the same", x.aware(0, 0, 0), NONE);
        due("nobody", x.aware(0, 5, 0), NONE);
        due("nobody", x.aware(-1, 1, 0), NONE);
        due("nothing", x.aware(0, 1, 5), NONE);
        due("nothing", x.aware(0, 1, -1), NONE);
    }

    private static void metOnes() {
        String three = TWO + "person c plain rank 1 tax 0;";
        PaidSecrets x = Check.of(three + "secret s false of b costs 40 by a;secret t true of b costs 30 on s by a;"
            + "secret u false of b costs 20 on t by a;secret v false of a costs 10 by a;");
        due("told to another", x.tell(0, 2, 0), 20);
        due("not met", x.secret(0, 7), 0);
        due("worth", x.secret(1, 6), 50);
        due("on and on", x.secret(2, 6), 70);
        due("met", x.tell(2, 1, 0), 0);
        due("met", x.secret(0, 7), 1);
        due("what is on it", x.secret(1, 6), 30);
        due("true to whom it is of", x.tell(0, 1, 1), 15);
        due("not met", x.secret(1, 7), 0);
        due("met with all it is on", x.tell(0, 1, 2), 0);
        due("met", x.secret(2, 7), 1);
        due("known from the first by whom it is of", x.secret(3, 7), 0);
        due("told by him", x.tell(0, 1, 3), 5);
        due("not met", x.secret(3, 7), 0);
        due("a met one may be told", x.tell(0, 2, 2), 0);
        due("mean, met or not", x.mean(2, 0), 6000);
        due("mean aside of what it is on", x.mean(1, 0), 15000);
    }

    // ---- promises 10 to 12

    private static void payments() {
        PaidSecrets x = Check.of(TOWN);
        due("too little", x.pay(0, 2), NONE);
        due("by none", x.pay(0, 0), NONE);
        due("not known", x.pay(0, 5), NONE);
        due("no such", x.pay(0, 32), NONE);
        due("no such", x.pay(0, 1 | 1 << 20), NONE);
        due("no such", x.pay(0, -1), NONE);
        due("no such", x.pay(0, Integer.MIN_VALUE), NONE);
        due("nobody", x.pay(5, 1), NONE);
        due("nobody", x.pay(-1, 1), NONE);
        due("paid", x.pay(0, 3), 42);
        due("paid", Check.person(x, 0, 5), 1);
        due("paid", x.secret(0, 8), 1);
        due("paid", x.secret(1, 8), 1);
        due("not paid", x.secret(4, 8), 0);
        due("twice", x.pay(0, 16), NONE);
        due("paid by another", x.pay(2, 2), NONE);
        due("without a tax, by none", x.pay(2, 0), NONE);
        due("without a tax", x.pay(2, 16), 63);
        due("all paid", x.pay(4, 16), NONE);
        due("a priest", x.pay(3, 8), 50);
        due("fined", x.quarter(), 18);
        due("paid no more", Check.person(x, 0, 5), 0);
        due("paid no more", x.secret(0, 8), 0);
        due("again", x.pay(4, 16), 63);
        PaidSecrets y = Check.of("person a plain rank 1 tax 30;person b plain rank 1 tax 31;"
            + "secret s true of a costs 30 by a;secret t true of a costs 30 by b;"
            + "secret u true of a costs 1 by b;");
        due("just so much", y.pay(0, 1), 30);
        due("one less", y.pay(1, 2), NONE);
        due("together", y.pay(1, 6), 31);
    }

    private static void risings() {
        PaidSecrets x = Check.of(TOWN);
        due("at the top", x.rise(3), NONE);
        due("eve", x.rise(4), 9);
        due("no more", x.rise(4), NONE);
        due("cis", x.rise(2), 1);
        due("rank", Check.person(x, 2, 1), 1);
        due("nobody", x.rise(5), NONE);
        due("nobody", x.rise(-1), NONE);
        due("to undo", x.count(9), 2);
    }

    private static void quarters() {
        PaidSecrets x = Check.of(TOWN);
        x.pay(1, 8);
        due("who did not pay", x.quarter(), 25);
        due("all who have a tax", x.quarter(), 27);
        due("quarters", x.count(4), 2);
        int[] fined = {2, 1, 0, 2, 2};
        for (int p = 0; p < 5; p++) {
            due("fined " + p, Check.person(x, p, 6), fined[p]);
        }
    }

    // ---- promises 13 and 14

    private static void loans() {
        PaidSecrets x = Check.of(TOWN);
        due("of another", x.lend(0, 1, 0), NONE);
        due("not known", x.lend(1, 3, 0), NONE);
        due("of himself", x.lend(4, 4, 4), NONE);
        due("nobody", x.lend(0, 5, 0), NONE);
        due("nobody", x.lend(-1, 3, 0), NONE);
        due("nothing", x.lend(0, 3, 5), NONE);
        due("nothing", x.lend(0, 3, -1), NONE);
        due("no loan", x.count(8) + x.count(9), 0);
        due("lent", x.lend(0, 3, 0), 30);
        due("lent by the deaf", x.lend(2, 1, 1), 12);
        due("lent by the priest", x.lend(3, 2, 3), 50);
        due("net", Check.person(x, 0, 7), 30);
        due("net", Check.person(x, 1, 7), -12);
        due("net", Check.person(x, 2, 7), -38);
        due("net", Check.person(x, 3, 7), 20);
        x.tell(0, 1, 0);
        due("what it was worth then stays", Check.person(x, 0, 7), 30);
        due("lent again, for less", x.lend(1, 3, 0), 15);
        for (int i = 5; i <= 12; i++) {
            due("loan " + i, x.lend(0, 3, 0), 15);
        }
        due("a thirteenth", x.lend(0, 3, 0), NONE);
        due("loans", x.count(8), 12);
        due("undone", x.undo(), true);
        due("loans", x.count(8), 11);
        due("the twelfth", x.lend(0, 3, 0), 15);
        x.tell(0, 1, 1);
        due("another new town", Check.town(x, TOWN), 0);
        x.tell(0, 1, 1);
        due("a met one", x.lend(0, 1, 1), 0);
        due("a loan all the same", x.count(8), 1);
    }

    private static void undone() {
        PaidSecrets x = Check.of(TOWN);
        due("nothing", x.undo(), false);
        x.tell(0, 1, 1);
        x.pay(0, 1);
        x.rise(2);
        x.lend(0, 3, 0);
        x.quarter();
        x.see(0, true);
        due("gossip", Check.gossip(x, "quarter;"), 0);
        due("to undo", x.count(9), 5);
        due("undo quarter", x.undo(), true);
        due("quarter", x.count(4), 0);
        due("paid again", Check.person(x, 0, 5), 1);
        due("paid again", x.secret(0, 8), 1);
        due("fined", Check.person(x, 1, 6), 0);
        due("undo lend", x.undo(), true);
        due("owed", Check.person(x, 0, 7) + Check.person(x, 3, 7) + x.count(8), 0);
        due("undo rise", x.undo(), true);
        due("rank", Check.person(x, 2, 1), 0);
        due("undo pay", x.undo(), true);
        due("unpaid", Check.person(x, 0, 5) + x.secret(0, 8), 0);
        due("undo tell", x.undo(), true);
        due("unmet", x.secret(1, 7), 0);
        due("unknown", x.secret(1, 4), 5);
        due("unaware", x.aware(0, 1, 1) + x.aware(1, 0, 1), 0);
        due("nothing more", x.undo(), false);
        due("seen stays", x.count(7), 1);
        due("gossip stays", x.count(6), 1);
        x.tell(0, 5, 1);
        x.rise(3);
        due("what can't be is not undone", x.count(9), 0);
        for (int i = 1; i <= 20; i++) {
            x.quarter();
            due("to undo", x.count(9), Math.min(i, 16));
        }
        for (int i = 1; i <= 16; i++) {
            due("undo " + i, x.undo(), true);
            due("quarter", x.count(4), 20 - i);
        }
        due("the 17th", x.undo(), false);
        due("quarter", x.count(4), 4);
        x.quarter();
        due("one more", x.count(9), 1);
    }

    // ---- promise 15

    private static void judgements() {
        PaidSecrets x = Check.of(TOWN);
        due("without gossip", x.judged(0), NONE);
        due("without gossip", x.judged(1), 0);
        due("without gossip", x.judged(2), 194);
        due("others", x.judged(3), -2);
        due("others", x.judged(-1), -2);
        due("gossip", Check.gossip(x, "tell ann cis one;pay dan four;quarter;tell cis ben two;rise dan;"
            + "pay ann one two;quarter;"), 0);
        x.tell(0, 1, 0);
        x.pay(0, 1);
        x.quarter();
        due("the first that can't be", x.judged(0), 3);
        due("fined: ann ben eve, ben dan eve", x.judged(1), 6);
        due("15, 12, 24, 50, 48", x.judged(2), 149);
        due("nothing is done", x.count(4), 1);
        due("rise of 9", Check.gossip(x, "quarter;rise eve;rise eve;rise dan;"), 0);
        due("rise of 9", x.judged(0), 2);
        due("fined", x.judged(1), 4);
        due("all can", Check.gossip(x, "tell ann ben two;quarter;pay ben four;quarter;quarter;"), 0);
        due("all can", x.judged(0), NONE);
        due("fined", x.judged(1), 11);
        due("two is met", x.judged(2), 182);
        due("pay twice", Check.gossip(x, "pay ben four;pay ben three;quarter;pay ben three;"), 0);
        due("pay twice", x.judged(0), 1);
        due("left out", x.judged(1), 3);
    }

    // ---- promises 16 and 17

    private static void leasts() {
        PaidSecrets x = Check.of(TOWN);
        int[] want = {1, 4, 2, 8, 16};
        for (int p = 0; p < 5; p++) {
            due("least " + p, x.least(p), want[p]);
        }
        due("nobody", x.least(5), NONE);
        due("nobody", x.least(-1), NONE);
        x.pay(0, 1);
        due("has paid", x.least(0), NONE);
        x.pay(2, 18);
        due("five is paid", x.least(4), NONE);
        PaidSecrets y = Check.of("person a plain rank 1 tax 40;person b plain rank 1 tax 0;"
            + "person c plain rank 1 tax 999;"
            + "secret s true of a costs 30 by a;secret t true of a costs 25 by a;secret u true of a costs 15 by a;"
            + "secret v true of a costs 20 by a;secret w true of a costs 20 by a c;");
        due("25 and 15, before 30 and 10", y.least(0), 6);
        due("knows nothing", y.least(1), NONE);
        due("too high", y.least(2), NONE);
        y.pay(2, 16);
        due("not paid by c", y.secret(4, 8), 0);
        PaidSecrets z = Check.of("person a plain rank 1 tax 10;person b plain rank 1 tax 0;"
            + "secret s true of a costs 30 by a b;secret t true of a costs 15 by a;secret u true of a costs 15 by b;");
        due("of equal ones the least set", z.least(0), 1);
        due("without a tax the least worth, then the least set", z.least(1), 1);
    }

    private static void payersAtOnce() {
        PaidSecrets x = Check.of(TOWN);
        due("all who have a tax", x.payers(), 27);
        x.pay(1, 16);
        due("five is paid: eve can't, ben has", x.payers(), 9);
        PaidSecrets y = Check.of("person a plain rank 1 tax 10;person b plain rank 1 tax 10;"
            + "person c plain rank 1 tax 10;person d plain rank 1 tax 0;"
            + "secret s true of a costs 60 by a b c d;");
        due("one by one secret, the least", y.payers(), 1);
        PaidSecrets z = Check.of("person a plain rank 1 tax 20;person b plain rank 1 tax 10;"
            + "person c plain rank 1 tax 10;"
            + "secret s true of a costs 20 by a b;secret t true of a costs 20 by a c;");
        due("b and c rather than a", z.payers(), 6);
        PaidSecrets w = Check.of("person a plain rank 1 tax 15;person b plain rank 1 tax 12;"
            + "secret s true of a costs 24 by a b;secret t true of a costs 20 by a b;secret u true of a costs 5 by a;");
        due("10 and 5 for a, 12 for b", w.payers(), 3);
        PaidSecrets v = Check.of(TWO);
        due("nobody can", v.payers(), 0);
    }

    // ---- promise 18

    private static void plot(PaidSecrets x, int many, int gain, int tellings, int first, int second) {
        int[] want = {gain, tellings, first, second};
        for (int what = 0; what < 4; what++) {
            due("plot by " + many + ", " + what, Check.plot(x, 0, 1, many, what), want[what]);
        }
    }

    private static void plots() {
        String four = "person a plain rank 1 tax 0;person b plain rank 1 tax 0;person c plain rank 1 tax 0;"
            + "person d plain rank 1 tax 0;";
        String three = "secret t true of a costs 1 on s by b;secret u true of a costs 1 on s by b;"
            + "secret v true of a costs 1 on s by b;";
        PaidSecrets x = Check.of(four + "secret s true of d costs 10 by a;" + three);
        plot(x, 0, -23, 0, NONE, NONE);
        plot(x, 1, -13, 1, 20, NONE);
        plot(x, 2, -9, 2, 20, 30);
        due("nothing is told", x.secret(0, 4), 1);
        due("nothing to undo", x.count(9), 0);
        PaidSecrets y = Check.of(four + "secret s false of d costs 10 by a;" + three);
        plot(y, 1, -3, 1, 30, NONE);
        plot(y, 2, -3, 1, 30, NONE);
        PaidSecrets z = Check.of("person a deaf rank 1 tax 0;person b plain rank 1 tax 0;"
            + "secret s false of b costs 10 by a;");
        plot(z, 2, 10, 0, NONE, NONE);
        due("b has nothing to tell", Check.plot(z, 1, 0, 2, 0), -10);
        PaidSecrets more = Check.of(four + "secret s true of a costs 10 by a;secret t true of a costs 10 by a;"
            + "worth knowers*10;");
        plot(more, 1, 30, 1, 20, NONE);
        plot(more, 2, 40, 2, 20, 21);
        due("the first row of all", Check.plot(more, 1, 3, 2, 1), 0);
        PaidSecrets last = Check.of("person a plain rank 1 tax 0;person b plain rank 1 tax 0;"
            + "secret s true of a costs 10 by b;secret t true of a costs 9 by b;worth knowers*cost;");
        int[] want = {19, 0, NONE, NONE};
        for (int what = 0; what < 4; what++) {
            due("told to him it would be lost " + what, Check.plot(last, 1, 0, 2, what), want[what]);
        }
        PaidSecrets first = Check.of("person a plain rank 1 tax 0;person b plain rank 1 tax 0;"
            + "person c plain rank 1 tax 0;secret s true of a costs 10 by b;secret t true of a costs 10 by b;"
            + "worth knowers*cost;");
        int[] both = {40, 2, 0, 1};
        for (int what = 0; what < 4; what++) {
            due("rows from 0 on " + what, Check.plot(first, 1, 2, 2, what), both[what]);
        }
        due("the same", Check.plot(x, 0, 0, 0, 0), Check.THROWN);
        due("nobody", Check.plot(x, 0, 4, 0, 0), Check.THROWN);
        due("nobody", Check.plot(x, -1, 0, 0, 0), Check.THROWN);
        due("three", Check.plot(x, 0, 1, 3, 0), Check.THROWN);
        due("less than none", Check.plot(x, 0, 1, -1, 0), Check.THROWN);
        due("what", Check.plot(x, 0, 1, 0, 4), Check.THROWN);
        due("what", Check.plot(x, 0, 1, 0, -1), Check.THROWN);
    }

    // ---- promises 19 to 21

    private static void leaks(PaidSecrets x, int sets, int inAll, int inSome, int least) {
        int[] want = {sets, inAll, inSome, least};
        for (int what = 0; what < 4; what++) {
            due("leaks " + what, x.leaks(what), want[what]);
        }
    }

    private static void sights() {
        PaidSecrets x = Check.of(TOWN);
        leaks(x, 32, 0, 31, 0);
        due("others", x.leaks(4), NONE);
        due("others", x.leaks(-1), NONE);
        due("no such", x.see(5, true), false);
        due("no such", x.see(-1, true), false);
        due("four fell", x.see(3, true), true);
        leaks(x, 24, 0, 31, 2);
        due("three held", x.see(2, false), true);
        leaks(x, 8, 8, 29, 8);
        due("two fell", x.see(1, true), true);
        leaks(x, 6, 8, 29, 9);
        x.tell(0, 1, 0);
        due("one fell", x.see(0, true), true);
        leaks(x, 4, 9, 29, 9);
        due("one fell, seen again", x.see(0, true), true);
        leaks(x, 4, 9, 29, 9);
        due("one held as well", x.see(0, false), true);
        leaks(x, 0, NONE, NONE, NONE);
        for (int i = 7; i <= 10; i++) {
            due("seen " + i, x.see(4, true), true);
        }
        due("an eleventh", x.see(4, true), false);
        due("seen", x.count(7), 10);
        due("is not undone", x.count(9), 1);
    }

    private static void lies(PaidSecrets x, int size, int least, int sets, int inAll) {
        int[] want = {size, least, sets, inAll};
        for (int what = 0; what < 4; what++) {
            due("lies " + what, x.lies(what), want[what]);
        }
    }

    private static void falsehoods() {
        PaidSecrets x = Check.of(TOWN);
        lies(x, 2, 10, 2, 2);
        due("others", x.lies(4), NONE);
        due("others", x.lies(-1), NONE);
        lies(Check.of(PEOPLE + SECRETS), 0, 0, 1, 0);
        PaidSecrets star = Check.of(PEOPLE + SECRETS + "clash one two;clash one three;clash four one;clash one five;");
        due("clashes of one", star.secret(0, 9), 30);
        due("clashes of four", star.secret(3, 9), 1);
        lies(star, 1, 1, 1, 1);
        lies(Check.of(allClash()), 9, 511, 10, 0);
        lies(Check.of(PEOPLE + SECRETS + "clash one two;clash two three;clash three one;"), 2, 3, 3, 0);
        lies(Check.of(PEOPLE + SECRETS + "clash two one;clash two three;clash two four;clash five four;"), 2, 10, 2, 2);
    }

    private static String allClash() {
        StringBuilder text = new StringBuilder("person a deaf rank 1 tax 1;");
        for (char c = 'k'; c < 'k' + 10; c++) {
            text.append("secret ").append(c).append(" true of a costs 1 by a;");
            for (char d = 'k'; d < c; d++) {
                text.append("clash ").append(c).append(' ').append(d).append(';');
            }
        }
        return text.toString();
    }

    // ---- promises 22 and 23

    private static void nights() {
        String pair = "person b deaf rank 1 tax 0;secret s true of b costs 10 by a;";
        for (String text : new String[] {"person a plain rank 1 tax 0;" + pair + "ear a b 3;",
            "person a gossip rank 1 tax 0;" + pair + "ear a b 2;"}) {
            PaidSecrets x = Check.of(text);
            due("now", x.mean(0, 0), 10000);
            due("now", x.holds(0, 0), 1000000);
            due("a night", x.mean(0, 1), 8500);
            due("a night", x.holds(0, 1), 700000);
            due("seven nights, cut", x.mean(0, 7), 5411);
            due("seven nights, cut", x.holds(0, 7), 82354);
            due("eight nights, cut at each", x.holds(0, 8), 57647);
            due("too many", x.mean(0, 31), NONE);
            due("too many", x.holds(0, 31), NONE);
            due("too few", x.mean(0, -1), NONE);
            due("too few", x.holds(0, -1), NONE);
            due("nothing", x.mean(1, 0), NONE);
            due("nothing", x.holds(-1, 0), NONE);
            due("thirty", x.holds(0, 30) >= 0 && x.mean(0, 30) >= 4990, true);
        }
        for (String kind : new String[] {"deaf", "priest"}) {
            PaidSecrets x = Check.of("person a " + kind + " rank 1 tax 0;" + pair + "ear a b 10;");
            due("never told", x.holds(0, 30), 1000000);
        }
        PaidSecrets priest = Check.of("person a plain rank 1 tax 0;person b priest rank 1 tax 0;"
            + "secret s true of b costs 10 by a;ear a b 10;");
        due("a priest aside", priest.mean(0, 3), 10000);
        PaidSecrets sure = Check.of("person a gossip rank 1 tax 0;" + pair + "ear a b 9;");
        due("surely", sure.mean(0, 1), 5000);
        due("surely not", sure.holds(0, 1), 0);
        PaidSecrets nobody = Check.of("person a plain rank 1 tax 0;" + pair + "ear a b 3;worth 0-knowers;");
        due("0 is no less than 0", nobody.holds(0, 1), 1000000);
        PaidSecrets chain = Check.of("person a plain rank 1 tax 0;person b plain rank 1 tax 0;"
            + "person c plain rank 1 tax 0;secret s true of b costs 60 by a;ear a b 10;ear b c 10;");
        due("one the first night", chain.mean(0, 1), 30000);
        due("the next one the second night", chain.mean(0, 2), 20000);
        PaidSecrets both = Check.of("person a plain rank 1 tax 0;person b plain rank 1 tax 0;"
            + "person c plain rank 1 tax 0;secret s true of b costs 60 by a b;ear a c 3;ear b c 3;");
        due("each for itself: 30 * 0.49 + 20 * 0.51", both.mean(0, 1), 24900);
        due("each for itself", both.holds(0, 1), 490000);
        PaidSecrets law = Check.of("person a plain rank 1 tax 0;" + pair + "ear a b 3;worth knowers*600;");
        due("600 * 0.7 + 999 * 0.3", law.mean(0, 1), 719700);
        due("more is no less", law.holds(0, 1), 1000000);
    }

    // ---- promise 24

    private static void settlements() {
        StringBuilder text = new StringBuilder(SIX);
        int[] costs = {10, 20, 30, 5, 7, 99};
        for (int i = 0; i < 6; i++) {
            char of = (char) ('a' + i);
            text.append("secret ").append((char) ('s' + i)).append(" true of ").append(of).append(" costs ")
                .append(costs[i]).append(" by a b c d e f;");
        }
        String town = text + "worth cost;";
        due("none", Check.of(town).settle(), 0);
        due("a pair", settled(town, "ab"), 1);
        due("in a row: +20 +10 -30", settled(town, "ab", "bc"), 2);
        due("around and back", settled(town, "ab", "ba", "ba"), 0);
        due("two pairs", settled(town, "ab", "cd"), 2);
        due("one to three", settled(town, "ab", "ac", "ad"), 3);
        due("12 -5 -7 and a pair of 30", settled(town, "bd", "be", "fc"), 3);
        due("all six", settled(town, "ab", "cd", "ef"), 3);
        due("+10 +10 -20: two", settled(town, "ac", "ca", "ba"), 2);
        due("+20 0 -20: one", settled(town, "ab", "ba", "ba", "cb"), 1);
        due("6 people one group", settled(town, "ab", "ac", "ad", "ae", "af"), 5);
    }

    /** Each loan: lender, debtor; by the debtor's secret. */
    private static int settled(String town, String... loans) {
        PaidSecrets x = Check.of(town);
        for (String loan : loans) {
            int debtor = loan.charAt(1) - 'a';
            due("lend " + loan, x.lend(loan.charAt(0) - 'a', debtor, debtor), x.secret(debtor, 2));
        }
        return x.settle();
    }

    // ---- promise 25

    private static void rest(PaidSecrets x, int people, int... want) {
        due("rests of " + people, x.rests(people, NONE), want.length);
        for (int i = 0; i < want.length; i++) {
            due("rests of " + people + ", " + i, x.rests(people, i), want[i]);
        }
        due("no more", x.rests(people, want.length), NONE);
        due("what", x.rests(people, -2), NONE);
    }

    private static void feasts() {
        String three = "person a plain rank 1 tax 0;person b deaf rank 1 tax 0;person c priest rank 1 tax 0;";
        String one = "secret s true of a costs 10 by a b c;";
        PaidSecrets x = Check.of(three + one + "worth cost;");
        rest(x, 3, 12);
        rest(x, 5, 12);
        rest(x, 7, 133);
        due("too few", x.rests(1, NONE), NONE);
        due("too few", x.rests(0, NONE), NONE);
        due("nobody", x.rests(9, NONE), NONE);
        due("nobody", x.rests(-1, NONE), NONE);
        due("nobody", x.rests(Integer.MIN_VALUE | 3, NONE), NONE);
        due("too many", Check.of(SIX).rests(15, NONE), NONE);
        rest(Check.of(three + one + "worth 1;"), 3, 0, 1, 11);
        rest(Check.of(three + one + "worth 0;"), 7, 0);
        rest(Check.of(three + one + "worth 3;"), 3, 1, 11, 12);
        rest(Check.of(three), 7, 0);
        String two = "secret t true of a costs 10 by a b;";
        rest(Check.of(three + one + two + "worth cost;"), 3, 13, 23);
        rest(Check.of(three + "secret s true of a costs 30 by a;secret t true of a costs 20 by b;"), 3, 13);
        PaidSecrets paid = Check.of(three + one + "worth cost;");
        paid.pay(0, 1);
        rest(paid, 3, 12);
    }

    // ---- promise 26

    private static void years() {
        String pair = "person a plain rank 1 tax 6;person b plain rank 1 tax 5;";
        String sure = pair + "secret s true of b costs 10 by a;ear a b 10;";
        PaidSecrets x = Check.of(sure);
        due("told once", x.years(0, 1, 0), 1);
        due("told once", x.years(7, 100, 0), 1);
        due("half", x.years(7, 1, 2), 5);
        due("no quarter yet", x.years(7, 9, 1), 0);
        due("a can't, b can", x.years(7, 10, 1), 1);
        due("each quarter", x.years(7, 100, 1), 10);
        due("all is as ahead", x.count(4) + x.count(9), 0);
        due("all is as ahead", x.secret(0, 4), 1);
        due("seed", x.years(-1, 1, 0), NONE);
        due("seed", x.years(10000, 1, 0), NONE);
        due("seed", x.years(9999, 1, 0), 1);
        due("nights", x.years(0, 0, 0), NONE);
        due("nights", x.years(0, 101, 0), NONE);
        due("what", x.years(0, 1, 3), NONE);
        due("what", x.years(0, 1, -1), NONE);
        due("never", Check.of(pair + "secret s true of b costs 10 by a;ear a b 0;").years(3, 100, 0), 0);
        due("no secrets", Check.of(pair + "ear a b 10;").years(3, 20, 1), 4);
        PaidSecrets paid = Check.of(sure);
        paid.pay(0, 1);
        due("a has paid, by what b would", paid.years(7, 10, 1), 1);
        due("b the next time", paid.years(7, 20, 1), 2);
        drawnYears();
    }

    /** By hand, by the draws themselves: told anew for each seed with ears that may and may not hear. */
    private static void drawnYears() {
        String town = "person a gossip rank 1 tax 0;person b plain rank 1 tax 0;person c deaf rank 1 tax 0;"
            + "secret s true of b costs 60 by a;secret t true of b costs 60 by b;ear a c 3;ear b a 5;ear c b 9;";
        PaidSecrets x = Check.of(town);
        for (int seed = 0; seed < 40; seed++) {
            long g = seed;
            List<String> told = new ArrayList<>(List.of("as", "bt"));
            int tellings = 0;
            for (int night = 0; night < 9; night++) {
                for (String ear : new String[] {"ac4", "ba5", "cb9"}) {
                    g = (g * 1103515245L + 12345) % 2147483648L;
                    if (g / 65536 % 10 >= ear.charAt(2) - '0') {
                        continue;
                    }
                    g = (g * 1103515245L + 12345) % 2147483648L;
                    char secret = g / 65536 % 2 == 0 ? 's' : 't';
                    boolean may = told.contains("" + ear.charAt(0) + secret) && ear.charAt(0) != 'c';
                    if (may && !told.contains("" + ear.charAt(1) + secret)) {
                        told.add("" + ear.charAt(1) + secret);
                        tellings++;
                    }
                }
            }
            due("years by seed " + seed, x.years(seed, 9, 0), tellings);
        }
    }

    // ---- promises 27 and 28

    private static void marks() {
        PaidSecrets x = Check.of(TOWN);
        due("none such", x.mark(4, false), false);
        due("none such", x.mark(-1, false), false);
        due("none such", x.mark(4, true), false);
        due("nothing on it", x.mark(3, true), false);
        due("gossip", Check.gossip(x, "quarter;rise ann;"), 0);
        x.tell(0, 1, 1);
        x.pay(0, 1);
        x.lend(0, 3, 0);
        x.see(0, true);
        due("laid", x.mark(3, false), true);
        due("undo stays", x.count(9), 3);
        x.quarter();
        x.rise(1);
        x.tell(0, 4, 0);
        x.see(1, false);
        x.lend(0, 3, 0);
        due("other gossip", Check.gossip(x, "rise ben;rise ben;rise ben;"), 0);
        due("fed", Check.feed(x, "abc"), 3);
        due("back", x.mark(3, true), true);
        due("tape stays", x.count(10), 3);
        due("quarter", x.count(4), 0);
        due("rank", Check.person(x, 1, 1), 5);
        due("known", x.secret(0, 4), 1);
        due("known", x.secret(1, 4), 7);
        due("aware", x.aware(0, 4, 0), 0);
        due("aware", x.aware(0, 1, 1), 1);
        due("met", x.secret(1, 7), 1);
        due("paid", x.secret(0, 8), 1);
        due("paid", Check.person(x, 0, 5), 1);
        due("fined", Check.person(x, 1, 6), 0);
        due("lent", Check.person(x, 0, 7), 30);
        due("loans", x.count(8), 1);
        due("gossip", x.count(6), 2);
        due("seen", x.count(7), 1);
        due("no undo", x.undo(), false);
        x.quarter();
        due("undo", x.undo(), true);
        x.quarter();
        x.quarter();
        due("laid anew", x.mark(2, false), true);
        due("back again", x.mark(3, true), true);
        due("quarter", x.count(4), 0);
        due("another", x.mark(2, true), true);
        due("quarter", x.count(4), 2);
        x.mark(3, false);
        x.quarter();
        due("laid over", x.mark(3, true), true);
        due("quarter", x.count(4), 2);
    }

    private static void counts() {
        PaidSecrets x = Check.of(TOWN);
        int[] want = {5, 5, 5, 3, 0, 194, 0, 0, 0, 0, 0, NONE};
        for (int what = 0; what < want.length; what++) {
            due("count " + what, x.count(what), want[what]);
        }
        due("count", x.count(-1), NONE);
        due("count", x.count(Integer.MIN_VALUE), NONE);
        due("NONE", NONE, -1);
    }
}
