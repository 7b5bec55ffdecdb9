/** Term 1 of the document, sentence by sentence: the last that can be told, the first that can't, and its place. */
public final class TextEdgesTest {
    private static final String TWO = "person a plain rank 1 tax 5;person b plain rank 2 tax 0;";
    private static final String TOLD = TWO + "secret s true of a costs 8 by a;secret v false of b costs 9 on s by a;";
    private static final String SIX = "person a plain rank 0 tax 0;person b gossip rank 9 tax 999;"
        + "person c deaf rank 0 tax 0;person d priest rank 0 tax 0;person e plain rank 0 tax 0;"
        + "person f plain rank 0 tax 0;";
    private static final String[] RESERVED = {"person", "rank", "tax", "secret", "of", "costs", "on", "by", "ear",
        "clash", "worth", "tell", "pay", "rise", "quarter", "plain", "gossip", "deaf", "priest", "true", "false", "not",
        "and", "or"};
    private static final String[] FACTS = {"cost", "knowers", "age", "high"};
    private static final String[] NEW_NAMES = {"person ^% plain rank 1 tax 1;", "secret ^% true of a costs 1 by a;"};
    private static final String[] PERSON_NAMES = {"secret t true of ^% costs 1 by a;", "secret t true of a costs 1 by ^%;",
        "secret t true of a costs 1 on s by ^%;", "secret t true of a costs 1 by a ^%;", "ear ^% a 1;", "ear a ^% 1;"};
    private static final String[] SECRET_NAMES = {"secret t true of a costs 1 on ^% by a;", "clash ^% s;",
        "clash s ^%;"};
    private static final String[] GOSSIP_PERSONS = {"tell ^% a s;", "tell a ^% s;", "pay ^% s;", "rise ^%;"};
    private static final String[] GOSSIP_SECRETS = {"tell a b ^%;", "pay a ^%;", "pay a s ^%;"};

    private TextEdgesTest() {
    }

    public static void main(String[] args) {
        tapeOfThousand();
        signsOfTheTape();
        tapeTaken();
        emptyTape();
        longestWords();
        longestNumbers();
        blanks();
        otherSigns();
        mostPeople();
        mostSecrets();
        numbersTold();
        knownBy();
        allEars();
        allClashes();
        worthOnce();
        mostLines();
        namesAndReserved();
        namesNotTold();
        namesTold();
        theSameTwice();
        everyTokenOfTowns();
        everyTokenOfGossip();
        tokensLeftOut();
        tokensTwice();
        tokensLeftOutOfGossip();
        firstFromTheLeft();
        leastKind();
        deepParts();
        wrappedInts();
        noDivisorOfKnowers();
        townFaultsChangeNothing();
        gossipFaultsChangeNothing();
        townBeginsAnew();
        townBehindALargerOne();
        gossipStandsAlone();
        Check.end();
    }

    private static void due(String call, long got, long want) {
        Check.due(call, got, want);
    }

    private static void fault(int kind, String marked) {
        Check.townFault(kind, marked);
    }

    private static void gossipFault(int kind, String marked) {
        Check.gossipFault(kind, TOLD, marked);
    }

    // ---- "The TAPE has at most 1,000 signs, 10 and 32 .. 126; what reads it takes it: it is empty then."

    private static void tapeOfThousand() {
        String person = "person a plain rank 1 tax 1";
        PaidSecrets x = new PaidSecrets();
        due("999 signs", Check.feed(x, person + " ".repeat(999 - person.length())), 999);
        due("the thousandth", Check.feed(x, ";"), 1000);
        due("no room for one more", Check.feed(x, "!"), 1000);
        due("nor for 24 more", Check.feed(x, "!".repeat(24)), 1000);
        due("full", x.count(10), 1000);
        due("what is beyond is left out", x.town(), 0);
        due("read", x.count(0), 1);
        due("992 signs", Check.feed(x, person + " ".repeat(992 - person.length())), 992);
        due("8 of 24", Check.feed(x, "       ;!!!!!!!!!!!!!!!!"), 1000);
        due("the first 8", x.town(), 0);
        due("1000 signs", Check.feed(x, person + " ".repeat(1000 - person.length())), 1000);
        due("the 1001st", Check.feed(x, ";"), 1000);
        due("the end is at 1000", x.town(), 1 + 16 * 1000);
        due("a word over the end", Check.feed(x, " ".repeat(996) + "person"), 1000);
        due("is cut", x.town(), 1 + 16 * 996);
        due("a word at the end", Check.feed(x, " ".repeat(994) + "person"), 1000);
        due("is whole", x.town(), 1 + 16 * 1000);
        String ahead = " ".repeat(998 - "person a plain rank 1 tax ".length()) + "person a plain rank 1 tax ";
        due("a number over the end", Check.feed(x, ahead + "99999;"), 1000);
        due("is cut", x.town(), 1 + 16 * 1000);
        due("only its first digit", Check.feed(x, " " + ahead + "99999;"), 1000);
        due("is cut", x.town(), 1 + 16 * 1000);
        due("a number of five digits at the end", Check.feed(x, ahead.substring(3) + "99999;"), 1000);
        due("is whole", x.town(), 1 + 16 * 995);
        due("of four, cut", Check.feed(x, ahead.substring(2) + "99999;"), 1000);
        due("is a number", x.town(), 4 + 16 * 996);
    }

    private static void signsOfTheTape() {
        for (int sign = 0; sign < 256; sign++) {
            int fits = sign == 10 || sign >= 32 && sign <= 126 ? 1 : 0;
            PaidSecrets x = new PaidSecrets();
            due("sign " + sign + " highest", x.feed((long) sign << 56, 0, 0), fits);
            due("sign " + sign + " lowest", x.feed(0, 0, sign), 2 * fits);
            due("sign " + sign + " amid", x.feed(0, (long) sign << 32, 0), 3 * fits);
        }
        PaidSecrets x = new PaidSecrets();
        due("a, b, c in this order", x.feed(Check.word("person a", 0), Check.word(" plain r", 0),
            Check.word("ank 9tax", 0)), 24);
        due("others left out", x.feed(0x0020ff3901093bL, 0, 0x80), 27);
        due("read", x.town(), 0);
        due("as told", Check.person(x, 0, 1) * 100 + Check.person(x, 0, 2), 909);
    }

    private static void tapeTaken() {
        PaidSecrets x = new PaidSecrets();
        due("town", Check.town(x, TOLD), 0);
        due("taken by a town", x.count(10), 0);
        due("gossip", Check.gossip(x, "rise a;"), 0);
        due("taken by a gossip", x.count(10), 0);
        due("no town", Check.town(x, "person;" + TOLD), 1 + 16 * 6);
        due("taken by a fault of a town", x.count(10), 0);
        due("no gossip", Check.gossip(x, "rise;rise a;"), 1 + 16 * 4);
        due("taken by a fault of a gossip", x.count(10), 0);
        due("nothing is left ahead", Check.gossip(x, "quarter;"), 0);
        due("no gossip", Check.gossip(x, "rise a;rise b;999999"), 1 + 16 * 14);
        due("nothing is left behind a word", Check.gossip(x, "rise"), 1 + 16 * 4);
        due("a law of nines", Check.town(x, "999999999999999"), 1);
        due("nothing is left behind a number", Check.town(x, "worth 9"), 1 + 16 * 7);
        due("a word of a's", Check.town(x, "aaaaaaaaaaaaaaaaaaaaaaaaa"), 1);
        due("nothing is left behind a word", Check.town(x, "person a"), 1 + 16 * 8);
        due("a blank end", Check.town(x, "worth 1         "), 1 + 16 * 16);
        due("fed", Check.feed(x, "rise a;"), 7);
        x.quarter();
        x.undo();
        x.mark(0, false);
        x.mark(0, true);
        due("nothing else takes it", x.count(10), 7);
        due("fed in parts", Check.feed(x, "rise b;"), 14);
        due("one behind another", x.gossip(), 0);
        due("two lines", x.count(6), 2);
    }

    private static void emptyTape() {
        PaidSecrets x = Check.of(TOLD);
        Check.gossip(x, "rise a;");
        due("an empty gossip", x.gossip(), 0);
        due("no lines", x.count(6), 0);
        due("the town stays", x.count(0), 2);
        due("an empty town", x.town(), 0);
        due("no people, no secrets", x.count(0) + x.count(1), 0);
        due("blanks alone", Check.town(x, " \n "), 0);
        due("blanks alone", Check.gossip(x, "\n\n "), 0);
    }

    // ---- "TOKENS, each as long as can be, blanks (10, 32) between where one likes: WORDS .. NUMBERS .. All else .."

    private static void longestWords() {
        PaidSecrets x = Check.of("person zzzzzzzz plain rank 1 tax 1;person zzzzzzza deaf rank 2 tax 2;"
            + "person azzzzzzz priest rank 3 tax 3;secret aaaaaaaa true of zzzzzzza costs 1 by azzzzzzz;"
            + "secret aaaaaaa true of azzzzzzz costs 1 on aaaaaaaa by zzzzzzzz;ear zzzzzzzz zzzzzzza 4;"
            + "clash aaaaaaa aaaaaaaa;");
        due("of the second", x.secret(0, 1), 1);
        due("by the third", x.secret(0, 4), 4);
        due("on the first", x.secret(1, 3), 0);
        due("gossip", Check.gossip(x, "tell zzzzzzzz azzzzzzz aaaaaaa;pay azzzzzzz aaaaaaaa;rise zzzzzzza;"), 0);
        for (String[] lines : new String[][] {NEW_NAMES, PERSON_NAMES, SECRET_NAMES}) {
            for (String line : lines) {
                fault(1, TOLD + line.replace("%", "aaaaaaaaa"));
                fault(1, TOLD + line.replace("%", "a".repeat(40)));
            }
        }
        for (String[] lines : new String[][] {GOSSIP_PERSONS, GOSSIP_SECRETS}) {
            for (String line : lines) {
                gossipFault(1, line.replace("%", "aaaaaaaaa"));
            }
        }
        fault(1, "^persona a plain rank 1 tax 1;");
        fault(1, "^personpersonperson a plain rank 1 tax 1;");
        fault(1, "person a ^gossips rank 1 tax 1;");
        fault(1, TOLD + "secret t true of a costs 1 ^ons by a;");
        fault(1, TOLD + "worth ^costcostc;");
        gossipFault(1, "^quarters;");
        gossipFault(1, "^quarterqu;");
    }

    private static void longestNumbers() {
        PaidSecrets x = Check.of("person a plain rank 0000 tax 0999;person b plain rank 0009tax 0000;");
        due("four digits", Check.person(x, 0, 2), 999);
        due("a letter may stand right behind", Check.person(x, 1, 1), 9);
        fault(1, "person a plain rank ^00000 tax 1;");
        fault(1, "person a plain rank ^00009tax 1;");
        fault(1, "person a plain rank 1 tax ^12345678901234567890;");
        fault(1, TOLD + "secret t true of a costs ^00001 by a;");
        fault(1, TOLD + "ear a b ^00010;");
        Check.fine("worth 9999;");
        fault(1, "worth ^10000;");
        fault(1, "worth cost+^4294967297;");
        Check.fine(TOLD + "ear a b 0010;secret t true of a costs 0099by a;");
        Check.fine("worth 1and 2or 3;");
    }

    private static void blanks() {
        PaidSecrets x = Check.of("person a plain rank3tax20;secret s true of a costs5by a;worth 3*cost+not(cost<5);");
        due("none where none is needed", x.secret(0, 6), 16);
        String told = "person a plain rank 3 tax 20 ; secret s true of a costs 5 by a ; worth 3 * cost + not ( cost < 5 ) ;";
        for (String blank : new String[] {"\n", "  ", " \n", "\n \n\n "}) {
            PaidSecrets y = Check.of(blank + told.replace(" ", blank) + blank);
            due("many of them", y.secret(0, 6), 16);
        }
        fault(1, "^persona plain rank 3 tax 20;");
        fault(1, "person a plain ^rankrank 3 tax 20;");
        fault(1, "^per son a plain rank 3 tax 20;");
        fault(1, "^perso\nn a plain rank 3 tax 20;");
        fault(4, "person a plain rank ^10tax 20;");
        fault(1, "person a plain rank 1 ^0 tax 20;");
        Check.fine("worth 1<2;");
        fault(1, "worth 1<^=2;");
        fault(1, "worth 1 ^1;");
    }

    private static void otherSigns() {
        for (char sign = 33; sign <= 126; sign++) {
            boolean isToken = sign >= 'a' && sign <= 'z' || sign >= '0' && sign <= '9' || "()<=+-*;".indexOf(sign) >= 0;
            if (!isToken) {
                fault(1, "^" + sign + TWO);
                fault(1, TWO + "^" + sign);
                fault(1, "worth 1^" + sign + "1;");
                fault(1, "person a^" + sign + "a plain rank 1 tax 1;");
                gossipFault(1, "rise a^" + sign + ";");
            } else {
                fault(1, TWO + "^" + sign);
                gossipFault(1, "^" + sign);
            }
        }
    }

    // ---- "person: 6 at most, numbered as told; KIND ..; rank 0 to 9, tax 0 to 999. secret: 10 at most, .."

    private static void mostPeople() {
        PaidSecrets x = Check.of(SIX);
        due("six", x.count(0), 6);
        for (int kind = 0; kind < 4; kind++) {
            due("kind of " + kind, Check.person(x, kind, 0), kind);
        }
        due("the lowest", Check.person(x, 0, 1) + Check.person(x, 0, 2), 0);
        due("the highest", Check.person(x, 1, 1) * 1000 + Check.person(x, 1, 2), 9999);
        fault(5, SIX + "^person g plain rank 0 tax 0;");
        fault(5, SIX + "^person");
        fault(5, SIX + "^person a !");
        fault(5, "worth 1;" + SIX + "ear a b 1;^person");
        Check.fine("person g plain rank 1 tax 1;" + SIX.substring(0, SIX.indexOf("person f")));
    }

    private static String manySecrets(int many) {
        StringBuilder text = new StringBuilder(TWO);
        for (int i = 0; i < many; i++) {
            text.append("secret ").append((char) ('k' + i)).append(i % 2 == 0 ? " true" : " false").append(" of a costs ")
                .append(i == 0 ? 1 : 99).append(i == 9 ? " on k" : "").append(" by a;");
        }
        return text.toString();
    }

    private static void mostSecrets() {
        PaidSecrets x = Check.of(manySecrets(10));
        due("ten", x.count(1), 10);
        due("costs 1", x.secret(0, 2), 1);
        due("costs 99", x.secret(9, 2), 99);
        due("true", x.secret(8, 0), 0);
        due("false", x.secret(9, 0), 1);
        due("on none", x.secret(8, 3), PaidSecrets.NONE);
        due("on the first", x.secret(9, 3), 0);
        due("known as bits", Check.person(x, 0, 3), 1023);
        fault(5, manySecrets(10) + "^secret u true of a costs 1 by a;");
        fault(5, manySecrets(10) + "^secret");
        fault(5, manySecrets(10) + "person c plain rank 1 tax 1;^secret k");
    }

    private static void numbersTold() {
        for (int rank = 0; rank <= 9; rank++) {
            due("rank", Check.person(Check.of("person a plain rank " + rank + " tax 0;"), 0, 1), rank);
        }
        for (String rank : new String[] {"10", "11", "99", "0010", "9999"}) {
            fault(4, "person a plain rank ^" + rank + " tax 0;");
        }
        for (String tax : new String[] {"1000", "1001", "9999"}) {
            fault(4, "person a plain rank 1 tax ^" + tax + ";");
        }
        for (String cost : new String[] {"0", "0000", "100", "0100", "9999"}) {
            fault(4, TOLD + "secret t true of a costs ^" + cost + " by a;");
        }
        for (int chance = 0; chance <= 10; chance++) {
            due("ear", Check.of(TWO + "ear a b " + chance + ";").ear(0, 1), chance);
        }
        for (String chance : new String[] {"11", "0011", "100", "9999"}) {
            fault(4, TWO + "ear a b ^" + chance + ";");
        }
        fault(1, "person a plain rank ^-1 tax 0;");
        fault(1, "person a plain rank 1 tax ^-1;");
        fault(1, TOLD + "secret t true of a costs ^-1 by a;");
        fault(1, TWO + "ear a b ^-1;");
    }

    private static void knownBy() {
        PaidSecrets x = Check.of(SIX + "secret s true of a costs 1 by f;secret t true of a costs 1 by f e d c b a;");
        due("by one", x.secret(0, 4), 32);
        due("by all", x.secret(1, 4), 63);
        fault(1, TOLD + "secret t true of a costs 1 by ^;");
        for (char who = 'a'; who <= 'f'; who++) {
            fault(3, SIX + "secret s true of a costs 1 by a b c d e f ^" + who + ";");
        }
        fault(2, SIX + "secret s true of a costs 1 by a b c d e f ^g;");
        fault(2, SIX + "secret s true of a costs 1 by a b c d e f ^s;");
        fault(1, SIX + "secret s true of a costs 1 by a b c d e f ^6;");
    }

    private static void allEars() {
        StringBuilder text = new StringBuilder(SIX);
        for (int pair = 0; pair < 36; pair++) {
            if (pair / 6 != pair % 6) {
                text.append("ear ").append((char) ('a' + pair / 6)).append(' ').append((char) ('a' + pair % 6))
                    .append(' ').append(pair % 11).append(';');
            }
        }
        PaidSecrets x = Check.of(text.toString());
        due("thirty ears", x.count(2), 30);
        for (int pair = 0; pair < 36; pair++) {
            int more = pair / 6 == 1 ? Math.min(pair % 11 + 1, 10) : pair % 11;
            due("ear " + pair, x.ear(pair / 6, pair % 6), pair / 6 == pair % 6 ? PaidSecrets.NONE : more);
        }
        fault(3, text + "ear f ^e 1;");
        fault(3, text + "ear a ^b 11;");
        fault(3, text + "ear f ^f 1;");
    }

    private static void allClashes() {
        StringBuilder text = new StringBuilder(manySecrets(10));
        for (char c = 'k'; c < 't'; c++) {
            for (char d = 't'; d > c; d--) {
                text.append("clash ").append(c).append(' ').append(d).append(';');
            }
        }
        String full = text.substring(TWO.length());
        PaidSecrets x = new PaidSecrets();
        due("all clashes", Check.town(x, "person a plain rank 1 tax 5;" + full), 0);
        due("45 clashes", x.count(3), 45);
        for (int i = 0; i < 10; i++) {
            due("clashes of " + i, x.secret(i, 9), 1023 - (1 << i));
        }
        fault(3, TOLD + "clash s v;clash v ^s;");
        fault(3, TOLD + "clash s v;clash s ^v;");
        fault(3, TOLD + "clash v ^v;");
        fault(3, TOLD + "clash v s;clash s ^s;");
    }

    private static void worthOnce() {
        Check.fine("worth 1;" + TOLD);
        Check.fine(TOLD + "worth 1;");
        fault(3, "worth 1;^worth 1;");
        fault(3, "worth 1;" + TOLD + "^worth");
        fault(3, "worth 0;^worth !");
        PaidSecrets x = Check.of(TOLD + "worth 7;");
        due("with", x.secret(0, 6), 7);
        due("again", Check.town(x, TOLD), 0);
        due("without", x.secret(0, 6), 8);
        due("with a fault behind it", Check.town(x, TOLD + "worth 7;;"), 1 + 16 * (TOLD.length() + 8));
        due("without", x.secret(0, 6), 8);
    }

    // ---- "30 lines at most"

    private static void mostLines() {
        String[] words = {"tell a b s;", "pay a s;", "rise a;", "quarter;"};
        for (String word : words) {
            PaidSecrets x = Check.of(TOLD);
            due("29 lines", Check.gossip(x, word.repeat(29)), 0);
            due("29 lines", x.count(6), 29);
            due("30 lines", Check.gossip(x, word.repeat(30)), 0);
            due("30 lines", x.count(6), 30);
            due("31 lines", Check.gossip(x, word.repeat(31)), 5 + 16 * 30 * word.length());
            due("30 lines stay", x.count(6), 30);
            gossipFault(5, "quarter;".repeat(30) + "^" + word);
            gossipFault(5, "rise a;".repeat(30) + " ^" + word.split("[ ;]")[0]);
        }
        gossipFault(1, "quarter;".repeat(30) + "^person");
        gossipFault(1, "quarter;".repeat(30) + "^tells");
        gossipFault(1, "quarter;".repeat(30) + "^a");
        gossipFault(1, "quarter;".repeat(29) + "tell a b s^");
    }

    // ---- "A NAME is another WORD than ..; no two (PEOPLE, SECRETS) are alike."

    private static void namesAndReserved() {
        for (String word : RESERVED) {
            for (String[] lines : new String[][] {NEW_NAMES, PERSON_NAMES, SECRET_NAMES}) {
                for (String line : lines) {
                    fault(1, TOLD + line.replace("%", word));
                }
            }
            for (String[] lines : new String[][] {GOSSIP_PERSONS, GOSSIP_SECRETS}) {
                for (String line : lines) {
                    gossipFault(1, line.replace("%", word));
                }
            }
        }
        for (String fact : FACTS) {
            for (String line : NEW_NAMES) {
                Check.fine(TOLD + Check.unmarked(line.replace("%", fact)));
            }
            fault(2, TOLD + "ear ^" + fact + " a 1;");
            gossipFault(2, "tell a b ^" + fact + ";");
        }
        PaidSecrets x = Check.of(TWO + "secret cost true of a costs 6 by a;worth cost;");
        due("a fact in the law all the same", x.secret(0, 6), 6);
        due("a NAME in a gossip", Check.gossip(x, "tell a b cost;"), 0);
    }

    // ---- FAULTS: "2 a NAME of no PERSON .., of no SECRET .. told"

    private static void namesNotTold() {
        for (String name : new String[] {"x", "s", "v", "t"}) {
            for (String line : PERSON_NAMES) {
                fault(2, TOLD + line.replace("%", name));
            }
        }
        for (String name : new String[] {"x", "a", "b"}) {
            for (String line : SECRET_NAMES) {
                fault(2, TOLD + line.replace("%", name));
            }
        }
        fault(2, TOLD + "secret t true of a costs 1 on ^t by a;");
        for (String name : new String[] {"x", "s"}) {
            for (String line : GOSSIP_PERSONS) {
                gossipFault(2, line.replace("%", name));
            }
        }
        for (String name : new String[] {"x", "a"}) {
            for (String line : GOSSIP_SECRETS) {
                gossipFault(2, line.replace("%", name));
            }
        }
        fault(2, "ear ^a b 1;" + TWO);
        fault(2, TWO + "secret s true of a costs 1 on ^v by a;secret v true of a costs 1 by a;");
        fault(2, TWO + "clash ^s v;secret s true of a costs 1 by a;");
        PaidSecrets x = Check.of(TOLD);
        due("a town of others", Check.town(x, "person c plain rank 1 tax 1;"), 0);
        due("told no more", Check.gossip(x, "rise a;"), 2 + 16 * 5);
        due("without a town", Check.gossip(new PaidSecrets(), "rise a;"), 2 + 16 * 5);
    }

    // ---- FAULTS: "3 a NAME told already, the same one again behind by, of pay; the second one of ear, of tell, of clash"

    private static void namesTold() {
        for (String name : new String[] {"a", "b", "s", "v"}) {
            for (String line : NEW_NAMES) {
                fault(3, TOLD + line.replace("%", name));
            }
        }
        PaidSecrets x = Check.of(TOLD);
        due("a new town may tell them anew", Check.town(x, "person s plain rank 1 tax 1;"), 0);
        due("told in a text with a fault", Check.town(x, "person q plain rank 1 tax 1;;"), 1 + 16 * 28);
        due("may be told behind it", Check.town(x, "person q plain rank 1 tax 1;"), 0);
    }

    private static void theSameTwice() {
        fault(3, TOLD + "secret t true of a costs 1 by a ^a;");
        fault(3, TOLD + "secret t true of a costs 1 by b a ^b;");
        gossipFault(3, "pay a s ^s;");
        gossipFault(3, "pay a s v ^s;");
        gossipFault(3, "pay a v s ^s;");
        gossipFault(3, "tell a ^a s;");
        gossipFault(3, "tell b ^b x;");
        Check.fine(TWO + "ear a b 1;ear b a 1;");
        fault(3, TWO + "ear a ^a 1;");
        fault(3, TWO + "ear a b 1;ear b a 1;ear b ^a 1;");
        fault(3, TWO + "ear a b 0;ear a ^b 0;");
        Check.fine(TOLD + "secret t true of a costs 1 by a b;");
        due("a gossip may say the same twice", Check.gossip(Check.of(TOLD), "tell a b s;tell a b s;pay a s;pay a s;"), 0);
    }

    // ---- FAULTS: "1 it is none, or can't stand there"; "the end being one at the text's length"

    private static void everyTokenOfTowns() {
        for (String line : new String[] {"person c deaf rank 3 tax 4 ;", "secret t false of a costs 9 on s by a b ;",
            "secret t true of b costs 9 by a ;", "ear a b 3 ;", "clash s v ;", "worth cost + 2 * not ( age < 3 ) ;"}) {
            Check.fine(TOLD + line);
            everyToken(line, true);
        }
    }

    private static void everyTokenOfGossip() {
        for (String line : new String[] {"tell a b s ;", "pay a s v ;", "rise a ;", "quarter ;"}) {
            due("gossip of " + line, Check.gossip(Check.of(TOLD), line), 0);
            everyToken(line, false);
        }
    }

    private static void everyToken(String line, boolean isTown) {
        String ahead = "";
        for (String token : line.split(" ")) {
            for (String wrong : new String[] {"!", "A", "aaaaaaaaa", "10000", ">", ",", "_"}) {
                one(isTown, ahead + "^" + wrong + line.substring(ahead.length() + token.length()));
            }
            if (!ahead.isEmpty()) {
                one(isTown, ahead + "^");
                one(isTown, ahead.trim() + "^");
                one(isTown, ahead + "\n  ^");
            }
            ahead += token + " ";
        }
    }

    private static void one(boolean isTown, String marked) {
        if (isTown) {
            fault(1, TOLD + marked);
        } else {
            gossipFault(1, marked);
        }
    }

    private static void tokensLeftOut() {
        for (String line : new String[] {"person ^deaf rank 3 tax 4;", "person c ^rank 3 tax 4;", "person c deaf ^3 tax 4;",
            "person c deaf rank ^tax 4;", "person c deaf rank 3 ^4;", "person c deaf rank 3 tax ^;",
            "person c deaf rank 3^;", "person c deaf^;", "person c^;", "person^;", "person c deaf ^tax 4;",
            "person c deaf rank 3 tax 4^", "person c deaf rank 3 tax 4 ^person d deaf rank 3 tax 4;"}) {
            fault(1, TOLD + line);
        }
        for (String line : new String[] {"secret ^true of a costs 9 by a;", "secret t ^of a costs 9 by a;",
            "secret t true ^a costs 9 by a;", "secret t true of ^costs 9 by a;", "secret t true of a ^9 by a;",
            "secret t true of a costs ^by a;", "secret t true of a costs ^on s by a;", "secret t true of a costs 9 ^s by a;",
            "secret t true of a costs 9 on ^by a;", "secret t true of a costs 9 on s ^a;", "secret t true of a costs 9 ^a;",
            "secret t true of a costs 9 by ^;", "secret t true of a costs 9^;", "secret t true of a ^by a;",
            "secret t true ^by a;", "secret t true of ^by a;", "secret t ^by a;", "secret t true ^costs 9 by a;",
            "secret t true ^on s by a;",
            "secret t true of a ^on s by a;", "secret t true of a costs 9 on s^;", "secret t true of a costs 9 by a^",
            "secret t true of a costs 9 by a ^ear a b 3;", "secret ^by a;", "secret^;"}) {
            fault(1, TOLD + line);
        }
        for (String line : new String[] {"ear b ^3;", "ear a ^3;", "ear a b^;", "ear ^3;", "ear a^;", "ear^;", "ear a b 3^",
            "ear a b 3 ^ear b a 3;", "clash v ^;", "clash^;", "clash s^", "clash s v^", "clash s v ^clash s v;"}) {
            fault(1, TOLD + line);
        }
        for (String e : new String[] {"^+ 2", "cost + ^* 2", "cost ^2", "cost + 2 ^not 1", "2 * ^;",
            "(cost < 3 ^;", "cost ^);",
            "(^) + 1", "cost < ^;", "< 3", "cost = ^;", "cost - ^;", "not ^;", "not ^+ 1", "(^;", "1 and ^;", "1 or ^;",
            "1 and ^and 1", "1 or ^and 1", "^and 1", "^or 1", "1 and 2 or ^;", "1 ^not 1", "1 ^(1)", "(1) ^(1)", "^;", "1^",
            "1 ^age", "1 < 2 ^< 3", "1 = 2 ^= 3", "1 < 2 ^= 3", "(1 < 2 ^< 3)", "1 and 2 < 3 ^< 4", "not ^< 1", "^- 1",
            "1 - ^- 1", "1 + ^+ 1", "1 * ^* 1", "(1 and ^)", "(1 or 2 + ^)"}) {
            String law = "worth " + (e.contains("^") ? e : "^" + e);
            fault(1, TOLD + law + (e.endsWith(";") || e.endsWith("^") ? "" : ";"));
        }
    }

    private static void tokensTwice() {
        for (String line : new String[] {"person ^person c deaf rank 3 tax 4;", "person c ^c deaf rank 3 tax 4;",
            "person c deaf ^deaf rank 3 tax 4;", "person c deaf rank ^rank 3 tax 4;", "person c deaf rank 3 ^3 tax 4;",
            "person c deaf rank 3 tax ^tax 4;", "person c deaf rank 3 tax 4 ^4;", "person c deaf rank 3 tax 4;^;",
            "person c deaf ^tax 4 rank 3;", "person c ^rank 3 deaf tax 4;",
            "secret ^secret t true of a costs 9 by a;", "secret t ^t true of a costs 9 by a;",
            "secret t true ^true of a costs 9 by a;", "secret t true ^false of a costs 9 by a;",
            "secret t true of ^of a costs 9 by a;", "secret t true of a ^a costs 9 by a;",
            "secret t true of a costs ^costs 9 by a;", "secret t true of a costs 9 ^9 by a;",
            "secret t true of a costs 9 on ^on s by a;", "secret t true of a costs 9 on s ^s by a;",
            "secret t true of a costs 9 on s ^on v by a;", "secret t true of a costs 9 by ^by a;",
            "secret t true of a costs 9 by a ^by b;", "secret t true of a costs 9 by a ^on s;", "ear ^ear a b 3;",
            "ear a b 3 ^3;", "ear a b ^a 3;", "ear a b 3;^;", "clash ^clash s v;", "clash s v ^s;", "clash s v;^;",
            "worth ^worth 1;", "worth 1;^;", "worth 1 ^1;"}) {
            fault(1, TOLD + line);
        }
    }

    private static void tokensLeftOutOfGossip() {
        for (String line : new String[] {"tell a b ^;", "tell a ^;", "tell ^;", "pay a ^;", "pay ^;", "rise ^;", "quarter^",
            "tell a b s^", "pay a s^", "rise a^", "tell a b s ^s;", "tell ^tell a b s;", "pay ^pay a s;", "rise ^rise a;",
            "rise a ^b;", "quarter ^quarter;", "quarter ^a;", "quarter;^;", "tell a b s;^;", "^a;", "^;", "pay a s ^rise a;",
            "tell a b s ^tell b a s;", "rise a ^quarter;", "^person c deaf rank 3 tax 4;", "^ear a b 3;", "^worth 1;",
            "^clash s v;", "^secret t true of a costs 9 by a;"}) {
            gossipFault(1, line);
        }
        for (String line : new String[] {"tell b ^s;", "tell a ^s;", "tell a b ^b s;", "tell a b ^a;", "pay ^s;",
            "pay ^v s;",
            "pay a ^a s;", "pay a ^b;", "pay a s ^a;", "rise ^s;"}) {
            gossipFault(2, line);
        }
        for (String line : new String[] {"^tell a b s;", "^pay a s;", "^rise a;", "^quarter;"}) {
            fault(1, TOLD + line);
        }
    }

    // ---- FAULTS: "of the first token from the left that is wrong the least"

    private static void firstFromTheLeft() {
        fault(4, "person a plain rank ^10 tax 1000;");
        fault(4, "person a plain rank ^10 !");
        fault(2, TOLD + "ear ^x y 11;");
        fault(3, TOLD + "ear a ^a 11;");
        fault(3, TOLD + "secret ^s maybe of x costs 0 by;");
        fault(2, TOLD + "secret t true of ^x costs 0 on x by x;");
        fault(4, TOLD + "secret t true of a costs ^0 on x by x;");
        fault(2, TOLD + "secret t true of a costs 1 on ^x by x x;");
        fault(3, TOLD + "clash s ^s!");
        fault(5, SIX + "^person ! deaf rank 10 tax 1000;");
        fault(5, "worth not not not not not ^1 !;");
        gossipFault(2, "tell ^x x x;");
        gossipFault(3, "tell a ^a a;");
        gossipFault(2, "pay ^x s s;");
        gossipFault(1, "^oops" + "quarter;".repeat(31));
    }

    private static void leastKind() {
        gossipFault(1, "quarter;".repeat(30) + "^!");
        gossipFault(1, "quarter;".repeat(30) + "^a");
        fault(1, TWO + "ear a b ^00011;");
        fault(1, "worth not not not not not ^;");
        fault(1, "worth not not not not not ^+");
        fault(1, "worth (((((^)))));");
        fault(1, "worth (((((^a)))));");
        fault(1, "worth (((((^10000)))));");
    }

    // ---- "no PART lies within 5 of not and ( )": "5 .. not, or a PART, within 5 others"

    private static void deepParts() {
        for (int nots = 0; nots <= 5; nots++) {
            String open = "not ".repeat(nots) + "(".repeat(5 - nots);
            String close = ")".repeat(5 - nots);
            for (String part : new String[] {"1", "9999", "cost", "knowers", "age", "high", "not 1", "(1)", "not", "("}) {
                fault(5, "worth " + open + "^" + part + close + ";");
            }
            fault(1, "worth " + open + "^;");
            if (nots < 5) {
                Check.fine("worth " + "not ".repeat(nots) + "(".repeat(4 - nots) + "1" + ")".repeat(4 - nots) + ";");
            }
        }
        Check.fine("worth ((((1))))+((((1))))*not not not not 1 and not(not(1))or(not(not 1));");
        fault(5, "worth ((((1))))+(((((^1)))));");
        fault(5, "worth ((((1+1*(^1)))));");
        fault(5, "worth (((not 1+not(^1))));");
        fault(1, "worth ((((1)))^;");
        fault(1, "worth ((((1))))^);");
    }

    // ---- "Of not, and, or, < and = comes 1 or 0; what is not 0 is so; ints wrap."

    private static void law(String e, int want) {
        PaidSecrets x = Check.of("person a plain rank 7 tax 0;secret s true of a costs 40 by a;worth " + e + ";");
        due("worth " + e, x.secret(0, 6), want);
    }

    /** 2^31 = 8192 * 8192 * 32. */
    private static void wrappedInts() {
        String least = "(0-8192*8192*32)";
        law("(8192*8192*32-1)-" + least, 0);
        law("0-1-(8192*8192*32-1)<0", 1);
        law("0-2-(8192*8192*32-1)<0", 0);
        law("0-2-(8192*8192*32-1)", 999);
        law("8192*8192*31+8192*8192<0", 1);
        law("8192*8192*31+8191*8192<0", 0);
        law("8192*8192*32=" + least, 1);
        law("0-" + least + "=" + least, 1);
        law("8192*8192*32<8192*8192*31", 1);
        law("8192*8192*64", 0);
        law("8192*8192*64=0", 1);
        law("not(8192*8192*64)", 1);
        law("9999*9999*9999*9999+9999", 999);
        law("not(0-1)", 0);
        law("not 9999", 0);
        law("0-1 and 0-1", 1);
        law("0-1 or 0", 1);
        law("2 and 1", 1);
        law("2 or 4", 1);
        law("0 and 5", 0);
        law("998", 998);
        law("999", 999);
        law("1000", 999);
        law("0-1", 0);
        law("0", 0);
        law("1", 1);
    }

    // ---- "Without worth: cost by knowers (by 1 if there are none), cut; 0 from five knowers on."

    private static void noDivisorOfKnowers() {
        String[] by = {"d", "a", "a b", "a b c", "a b c e", "a b c e f"};
        int[] want = {99, 99, 49, 33, 24, 0};
        for (int knowers = 0; knowers <= 5; knowers++) {
            PaidSecrets x = Check.of(SIX + "secret s true of a costs 99 by " + by[knowers] + ";");
            due("knowers", x.secret(0, 5), knowers);
            due("worth by " + by[knowers], x.secret(0, 6), want[knowers]);
            PaidSecrets y = Check.of(SIX + "secret s true of a costs 99 by " + by[knowers] + ";worth cost*knowers;");
            due("with worth by " + by[knowers], y.secret(0, 6), 99 * knowers);
            PaidSecrets z = Check.of(SIX + "secret s true of a costs 1 by " + by[knowers] + ";");
            due("cut", z.secret(0, 6), knowers < 2 ? 1 : 0);
        }
        String many = SIX.replace("deaf", "priest").replace("plain", "priest").replace("gossip", "priest");
        PaidSecrets x = Check.of(many + "secret s true of a costs 99 by a b c d e f;");
        due("six priests aside", x.secret(0, 5), 0);
        due("by 1", x.secret(0, 6), 99);
    }

    // ---- "0, or its FAULT (all stays then)"

    private static PaidSecrets lived() {
        PaidSecrets x = Check.of(TWO + "person c gossip rank 9 tax 3;secret s true of a costs 8 by a c;"
            + "secret v false of b costs 9 on s by a;ear a b 3;clash s v;");
        x.tell(0, 1, 1);
        x.quarter();
        x.pay(0, 1);
        x.rise(1);
        x.lend(2, 0, 0);
        x.see(0, true);
        x.mark(1, false);
        due("gossip", Check.gossip(x, "rise c;tell a b s;quarter;"), 0);
        return x;
    }

    private static void townFaultsChangeNothing() {
        String[] texts = {"!", "person x plain rank 1 tax 1", "person x plain rank 10 tax 1;",
            "person x plain rank 1 tax 1;ear x y 1;", TOLD + "person a", SIX + "person", "worth 1;worth 1;",
            "person a plain rank 5 tax 5;secret s false of a costs 1 by a;worth (((((1)))));"};
        for (String text : texts) {
            PaidSecrets x = lived();
            String ahead = Check.all(x);
            Check.due("a fault of " + text, Check.town(x, text) != 0, true);
            Check.due("all stays behind " + text, Check.all(x).equals(ahead), true);
            due("the ear", x.ear(0, 1), 3);
            Check.due("the mark", x.mark(1, true), true);
            due("back at it", x.count(6), 0);
        }
    }

    private static void gossipFaultsChangeNothing() {
        String[] texts = {"!", "rise a;rise", "rise a;rise s;", "tell a a s;", "quarter;".repeat(31), "quarter;;"};
        for (String text : texts) {
            PaidSecrets x = lived();
            String ahead = Check.all(x);
            Check.due("a fault of " + text, Check.gossip(x, text) != 0, true);
            Check.due("all stays behind " + text, Check.all(x).equals(ahead), true);
            due("fined as ahead", x.judged(0) * 10 + x.judged(1), 2);
        }
    }

    // ---- "Without a FAULT a TOWN is the TOWN from then on: QUARTER 0, who knows what as told, nobody aware, .."

    private static void townBeginsAnew() {
        String told = "person a plain rank 4 tax 6;person b deaf rank 2 tax 0;secret s false of b costs 8 by a;ear b a 1;";
        String fresh = Check.all(Check.of(told));
        PaidSecrets x = lived();
        due("another town", Check.town(x, told), 0);
        Check.due("as if new", Check.all(x).equals(fresh), true);
        due("no ear of the old one", x.ear(0, 1), PaidSecrets.NONE);
        due("nor its clash", x.lies(0), 0);
        for (int mark = 0; mark < 4; mark++) {
            Check.due("no mark", x.mark(mark, true), false);
        }
        Check.due("nothing to undo", x.undo(), false);
        x.tell(0, 1, 0);
        x.quarter();
        due("the same town", Check.town(x, told), 0);
        Check.due("as if new", Check.all(x).equals(fresh), true);
    }

    /** What a TOWN ahead of it had more of is nothing to the one behind, nor to the one behind that. */
    private static void townBehindALargerOne() {
        StringBuilder large = new StringBuilder(SIX.replace("plain", "priest").replace("tax 0", "tax 9"));
        for (char c = 'k'; c < 'k' + 10; c++) {
            large.append("secret ").append(c).append(" false of b costs 99 by a b c d e f;");
            if (c > 'k') {
                large.append("clash k ").append(c).append(';');
            }
        }
        large.append("ear a b 3;ear b a 3;ear c d 3;worth 900;");
        String small = "person a plain rank 1 tax 5;person b plain rank 1 tax 0;secret s true of b costs 8 by a;"
            + "secret t true of a costs 9 by a b;";
        String fresh = Check.all(Check.of(small));
        PaidSecrets x = new PaidSecrets();
        for (int ahead = 1; ahead <= 3; ahead++) {
            for (int i = 0; i < ahead; i++) {
                due("the large one", Check.town(x, large.toString()), 0);
                due("its worths", x.count(5), 9000);
            }
            for (int i = 0; i < 3; i++) {
                due("the small one", Check.town(x, small), 0);
                due("its worths", x.count(5), 12);
                Check.due("as if new", Check.all(x).equals(fresh), true);
                due("no ears", x.ear(0, 1), PaidSecrets.NONE);
                due("payers", x.payers(), 1);
                due("lies", x.lies(0) + x.lies(2), 1);
                due("true", x.tell(0, 1, 0), 4);
                due("years", x.years(1, 100, 1) * 100 + x.years(1, 100, 2), 8);
            }
        }
    }

    private static void gossipStandsAlone() {
        PaidSecrets x = lived();
        int[] ahead = {x.count(4), x.count(7), x.count(8), x.count(9), x.secret(0, 8)};
        due("a gossip", Check.gossip(x, "rise b;"), 0);
        due("instead of the one ahead", x.count(6), 1);
        int[] behind = {x.count(4), x.count(7), x.count(8), x.count(9), x.secret(0, 8)};
        for (int i = 0; i < ahead.length; i++) {
            due("nothing else is other " + i, behind[i], ahead[i]);
        }
        Check.due("the mark stays", x.mark(1, true), true);
    }
}
