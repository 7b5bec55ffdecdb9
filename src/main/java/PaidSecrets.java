import java.util.Arrays;
import java.util.NoSuchElementException;

/** A town whose collector takes secrets for its taxes; the document's promises say what each call answers. */
public final class PaidSecrets {
    public static final int NONE = -1;

    private static final int MOST_PEOPLE = 6;
    private static final int MOST_SECRETS = 10;
    private static final int PEOPLE_SETS = 64;
    private static final int SECRET_SETS = 1024;
    private static final int MOST_EARS = 30;
    private static final int MOST_LINES = 30;
    private static final int MOST_SEEN = 10;
    private static final int MOST_LOANS = 12;
    private static final int MOST_UNDONE = 16;
    private static final int MARKS = 4;
    private static final int TOP_RANK = 9;
    private static final int MOST_WORTH = 999;
    private static final int WORTHLESS_FROM = 5;
    private static final int SURE = 10;
    private static final int MOST_NIGHTS = 30;
    private static final int YEARS_NIGHTS = 100;
    private static final int QUARTER_NIGHTS = 10;
    private static final int TOP_SEED = 9999;
    private static final int NO_VERDICT = -2;
    private static final int KNOWER_COUNTS = MOST_PEOPLE + 1;
    private static final long MILLION = 1000000;
    private static final Word[] WORDS = Word.values();

    private final Tape tape = new Tape();
    private final State now = new State();
    private final State trial = new State();
    private final Talk talk = new Talk();
    private final Talk draftTalk = new Talk();
    private final State[] past = new State[MOST_UNDONE];
    private final State[] markStates = new State[MARKS];
    private final Talk[] markTalks = new Talk[MARKS];
    private final Collector collector = new Collector();
    private final Feast feast = new Feast();
    private final Nights passing = new Nights();
    private final int[] worths = new int[MOST_SECRETS];
    private final int[] lawful = new int[MOST_SECRETS * KNOWER_COUNTS];
    private final int[] answers = new int[4];
    private Town here = new Town();
    private Town draft = new Town();
    private int pasts = 0;
    private int pastEnd = 0;
    private int laid = 0;
    private long drawn = 0;

    public PaidSecrets() {
        for (int i = 0; i < MOST_UNDONE; i++) {
            past[i] = new State();
        }
        for (int i = 0; i < MARKS; i++) {
            markStates[i] = new State();
            markTalks[i] = new Talk();
        }
    }

    public int feed(long a, long b, long c) {
        tape.add(a);
        tape.add(b);
        tape.add(c);
        return tape.length;
    }

    public int town() {
        int fault = TownReader.readTown(tape, draft);
        tape.clear();
        if (fault != 0) {
            return fault;
        }
        Town read = draft;
        draft = here;
        here = read;
        now.begin(here);
        talk.clear();
        laid = 0;
        pasts = 0;
        return 0;
    }

    public int gossip() {
        int fault = GossipReader.readGossip(tape, here, draftTalk);
        tape.clear();
        if (fault == 0) {
            talk.copyLines(draftTalk);
        }
        return fault;
    }

    public int person(int person, int what) throws NoSuchElementException {
        if (!here.hasPerson(person)) {
            throw new NoSuchElementException();
        }
        switch (what) {
            case 0:
                return here.kind[person];
            case 1:
                return now.rank[person];
            case 2:
                return here.tax[person];
            case 3:
                return now.known(here, person);
            case 4:
                return together(weighed(now), now.known(here, person));
            case 5:
                return bit(now.paidPeople, person);
            case 6:
                return now.fined[person];
            case 7:
                return now.net[person];
            default:
                throw new NoSuchElementException();
        }
    }

    public int secret(int secret, int what) {
        if (!here.hasSecret(secret)) {
            return NONE;
        }
        switch (what) {
            case 0:
                return bit(here.falsehoods, secret);
            case 1:
                return here.ofWhom[secret];
            case 2:
                return here.cost[secret];
            case 3:
                return here.on[secret];
            case 4:
                return now.knowing[secret];
            case 5:
                return here.knowers(now.knowing[secret]);
            case 6:
                return weighed(now)[secret];
            case 7:
                return bit(now.met, secret);
            case 8:
                return bit(now.paidSecrets, secret);
            case 9:
                return here.clashing[secret];
            default:
                return NONE;
        }
    }

    public int aware(int person, int other, int secret) {
        if (!here.hasPair(person, other) || !here.hasSecret(secret)) {
            return NONE;
        }
        return now.isAware(person, other, secret) ? 1 : 0;
    }

    public int ear(int person, int other) {
        return here.hasPair(person, other) ? here.chance(person, other) : NONE;
    }

    public int tell(int person, int other, int secret) {
        if (!now.mayTell(here, person, other, secret)) {
            return NONE;
        }
        remember();
        now.whisper(here, person, other, secret);
        return weighed(now)[secret];
    }

    public int pay(int person, int secrets) {
        if (!here.hasPerson(person) || !now.mayPay(here, person, secrets, weighed(now))) {
            return NONE;
        }
        remember();
        now.take(person, secrets);
        return together(worths, secrets);
    }

    public int rise(int person) {
        if (!here.hasPerson(person) || now.rank[person] >= TOP_RANK) {
            return NONE;
        }
        remember();
        now.rank[person]++;
        return now.rank[person];
    }

    public int quarter() {
        remember();
        return now.endQuarter(here);
    }

    public int lend(int person, int other, int secret) {
        if (!now.mayLend(here, person, other, secret)) {
            return NONE;
        }
        remember();
        int worth = weighed(now)[secret];
        now.owe(person, other, worth);
        return worth;
    }

    public boolean undo() {
        if (pasts <= 0) {
            return false;
        }
        pasts--;
        pastEnd = Math.floorMod(pastEnd - 1, MOST_UNDONE);
        now.copyFrom(past[pastEnd]);
        return true;
    }

    public int judged(int what) {
        if (what < 0 || what > 2) {
            return NO_VERDICT;
        }
        judge();
        return answers[what];
    }

    public int least(int person) {
        if (!here.hasPerson(person)) {
            return NONE;
        }
        collector.weighSets(here, weighed(now));
        return collector.fewest(here, now, person);
    }

    public int payers() {
        collector.weighSets(here, weighed(now));
        return collector.mostAtOnce(here, now);
    }

    public int plot(int person, int other, int many, int what) throws NoSuchElementException {
        if (!here.hasPair(person, other) || many < 0 || many > 2 || what < 0 || what > 3) {
            throw new NoSuchElementException();
        }
        scheme(person, other, many);
        return answers[what];
    }

    public boolean see(int secret, boolean fell) {
        return here.hasSecret(secret) && talk.addSeen(secret, fell);
    }

    public int leaks(int what) {
        if (what < 0 || what > 3) {
            return NONE;
        }
        findLeaks();
        return what > 0 && answers[0] == 0 ? NONE : answers[what];
    }

    public int lies(int what) {
        if (what < 0 || what > 3) {
            return NONE;
        }
        findLies();
        return answers[what];
    }

    public int mean(int secret, int nights) {
        if (!passNights(secret, nights)) {
            return NONE;
        }
        return (int) (passing.expected(here) / 1000);
    }

    public int holds(int secret, int nights) {
        if (!passNights(secret, nights)) {
            return NONE;
        }
        return (int) passing.surety(here, now.knowing[secret]);
    }

    public int settle() {
        return collector.fewestPayments(here, now);
    }

    public int rests(int people, int what) {
        int guests = Integer.bitCount(people);
        if (people < 0 || people >= 1 << here.people || guests < 2 || guests > 3 || what < NONE) {
            return NONE;
        }
        feast.invite(here, now, people);
        return feast.atRest(weighed(now), what);
    }

    public int years(int seed, int nights, int what) {
        if (seed < 0 || seed > TOP_SEED || nights < 1 || nights > YEARS_NIGHTS || what < 0 || what > 2) {
            return NONE;
        }
        live(seed, nights);
        return answers[what];
    }

    public boolean mark(int mark, boolean back) {
        if (mark < 0 || mark >= MARKS || back && bit(laid, mark) == 0) {
            return false;
        }
        if (back) {
            now.copyFrom(markStates[mark]);
            talk.copyFrom(markTalks[mark]);
            pasts = 0;
        } else {
            markStates[mark].copyFrom(now);
            markTalks[mark].copyFrom(talk);
            laid |= 1 << mark;
        }
        return true;
    }

    public int count(int what) {
        switch (what) {
            case 0:
                return here.people;
            case 1:
                return here.secrets;
            case 2:
                return here.ears;
            case 3:
                return here.clashes;
            case 4:
                return now.quarters;
            case 5:
                return together(weighed(now), here.allSecrets());
            case 6:
                return talk.lines;
            case 7:
                return talk.seen;
            case 8:
                return now.loans;
            case 9:
                return pasts;
            case 10:
                return tape.length;
            default:
                return NONE;
        }
    }

    private static int bit(int bits, int at) {
        return bits >> at & 1;
    }

    private int[] weighed(State state) {
        state.weigh(here, worths);
        return worths;
    }

    private static int together(int[] worths, int secrets) {
        int sum = 0;
        for (int i = 0; i < MOST_SECRETS; i++) {
            sum += bit(secrets, i) * worths[i];
        }
        return sum;
    }

    private void remember() {
        past[pastEnd].copyFrom(now);
        pastEnd = (pastEnd + 1) % MOST_UNDONE;
        pasts = Math.min(pasts + 1, MOST_UNDONE);
    }

    private void judge() {
        trial.begin(here);
        answers[0] = NONE;
        answers[1] = 0;
        for (int i = 0; i < talk.lines; i++) {
            if (talk.deed[i] == Talk.QUARTER) {
                answers[1] += Integer.bitCount(trial.endQuarter(here));
            } else if (!tryLine(i) && answers[0] == NONE) {
                answers[0] = i;
            }
        }
        answers[2] = together(weighed(trial), here.allSecrets());
    }

    private boolean tryLine(int line) {
        int who = talk.who[line];
        int whom = talk.whom[line];
        int what = talk.what[line];
        if (talk.deed[line] == Talk.TELL) {
            if (!trial.mayTell(here, who, whom, what)) {
                return false;
            }
            trial.whisper(here, who, whom, what);
            return true;
        }
        if (!here.hasPerson(who)) {
            return false;
        }
        if (talk.deed[line] == Talk.PAY) {
            if (!trial.mayPay(here, who, what, weighed(trial))) {
                return false;
            }
            trial.take(who, what);
            return true;
        }
        if (trial.rank[who] >= TOP_RANK) {
            return false;
        }
        trial.rank[who]++;
        return true;
    }

    /** Fewer tellings are tried first and rows in their order, so only a greater gain may take the place. */
    private void scheme(int person, int other, int many) {
        trial.copyFrom(now);
        fillLawful();
        answers[0] = gain(person, other);
        answers[1] = 0;
        answers[2] = NONE;
        answers[3] = NONE;
        for (int tellings = 1; tellings <= many; tellings++) {
            for (int row = 0; row < MOST_PEOPLE * MOST_SECRETS; row++) {
                tryFirst(person, other, tellings, row);
            }
        }
    }

    private void tryFirst(int person, int other, int tellings, int row) {
        int hearer = row / MOST_SECRETS;
        int secret = row % MOST_SECRETS;
        if (!trial.mayTell(here, person, hearer, secret)) {
            return;
        }
        int met = trial.met;
        trial.whisper(here, person, hearer, secret);
        if (tellings == 1) {
            keepGain(gain(person, other), 1, row, NONE);
        } else {
            trySeconds(person, other, row);
        }
        trial.forget(hearer, secret, met);
    }

    private void trySeconds(int person, int other, int first) {
        for (int row = 0; row < MOST_PEOPLE * MOST_SECRETS; row++) {
            int hearer = row / MOST_SECRETS;
            int secret = row % MOST_SECRETS;
            if (trial.mayTell(here, person, hearer, secret)) {
                int met = trial.met;
                trial.whisper(here, person, hearer, secret);
                keepGain(gain(person, other), 2, first, row);
                trial.forget(hearer, secret, met);
            }
        }
    }

    private void keepGain(int gain, int tellings, int first, int second) {
        if (gain > answers[0]) {
            answers[0] = gain;
            answers[1] = tellings;
            answers[2] = first;
            answers[3] = second;
        }
    }

    /** A plot weighs the town thousands of times while only knowers change: the law is read once for each count. */
    private void fillLawful() {
        for (int i = 0; i < here.secrets; i++) {
            for (int k = 0; k < KNOWER_COUNTS; k++) {
                lawful[i * KNOWER_COUNTS + k] = trial.lawWorth(here, i, k);
            }
        }
    }

    private int gain(int person, int other) {
        int gain = 0;
        for (int i = 0; i < here.secrets; i++) {
            int worth = 0;
            if (bit(trial.met, i) == 0) {
                int on = here.on[i];
                worth = lawful[i * KNOWER_COUNTS + here.knowers(trial.knowing[i])] + (on < 0 ? 0 : worths[on]);
            }
            worths[i] = worth;
            gain += worth * (bit(trial.knowing[i], person) - bit(trial.knowing[i], other));
        }
        return gain;
    }

    private void findLeaks() {
        answers[0] = 0;
        answers[1] = PEOPLE_SETS - 1;
        answers[2] = 0;
        answers[3] = NONE;
        for (int set = 0; set < 1 << here.people; set++) {
            if (explains(set)) {
                answers[0]++;
                answers[1] &= set;
                answers[2] |= set;
                if (answers[3] == NONE || Integer.bitCount(set) < Integer.bitCount(answers[3])) {
                    answers[3] = set;
                }
            }
        }
    }

    private boolean explains(int leakers) {
        for (int i = 0; i < talk.seen; i++) {
            boolean falls = (now.knowing[talk.seenSecret[i]] & leakers) != 0;
            if (falls != (talk.seenFell[i] == 1)) {
                return false;
            }
        }
        return true;
    }

    private void findLies() {
        answers[0] = MOST_SECRETS + 1;
        for (int set = 0; set < 1 << here.secrets; set++) {
            int size = Integer.bitCount(set);
            if (size > answers[0] || !here.agrees(set)) {
                continue;
            }
            if (size < answers[0]) {
                answers[0] = size;
                answers[1] = set;
                answers[2] = 0;
                answers[3] = set;
            }
            answers[2]++;
            answers[3] &= set;
        }
    }

    private boolean passNights(int secret, int nights) {
        if (!here.hasSecret(secret) || nights < 0 || nights > MOST_NIGHTS) {
            return false;
        }
        passing.pass(here, now.knowing[secret], nights);
        passing.weighCounts(here, now, secret);
        return true;
    }

    private void live(int seed, int nights) {
        trial.copyFrom(now);
        drawn = seed;
        answers[0] = 0;
        answers[1] = 0;
        for (int night = 1; night <= nights; night++) {
            for (int i = 0; i < here.ears; i++) {
                answers[0] += useEar(here.earFrom[i], here.earTo[i]);
            }
            if (night % QUARTER_NIGHTS == 0) {
                answers[1] += Integer.bitCount(quarterDay());
            }
        }
        answers[2] = together(weighed(trial), here.allSecrets());
    }

    private int useEar(int from, int to) {
        if (draw(SURE) >= here.chance(from, to) || here.secrets == 0) {
            return 0;
        }
        int secret = draw(here.secrets);
        if (!trial.mayTell(here, from, to, secret)) {
            return 0;
        }
        trial.whisper(here, from, to, secret);
        return 1;
    }

    private int quarterDay() {
        collector.weighSets(here, weighed(trial));
        for (int i = 0; i < here.people; i++) {
            int secrets = here.tax[i] > 0 ? collector.fewest(here, trial, i) : NONE;
            if (secrets != NONE) {
                trial.take(i, secrets);
            }
        }
        return trial.endQuarter(here);
    }

    private int draw(int below) {
        drawn = (drawn * 1103515245L + 12345L) & 0x7fffffffL;
        return below <= 0 ? 0 : (int) (drawn / 65536) % below;
    }

    /** The words of the language; a fact of the law may also be a NAME, all others may not. */
    private enum Word {
        PERSON("person", 0), RANK("rank", 0), TAX("tax", 0), SECRET("secret", 0), OF("of", 0), COSTS("costs", 0),
        ON("on", 0), BY("by", 0), EAR("ear", 0), CLASH("clash", 0), WORTH("worth", 0), TELL("tell", 0),
        PAY("pay", 0), RISE("rise", 0), QUARTER("quarter", 0), PLAIN("plain", 0), GOSSIP("gossip", 0),
        DEAF("deaf", 0), PRIEST("priest", 0), TRUE("true", 0), FALSE("false", 0), NOT("not", 0), AND("and", 0),
        OR("or", 0), COST("cost", Law.COST), KNOWERS("knowers", Law.KNOWERS), AGE("age", Law.AGE),
        HIGH("high", Law.HIGH);

        final long code;
        final int fact;

        Word(String text, int fact) {
            long sum = 0;
            for (int i = 0; i < text.length(); i++) {
                sum = sum * 32 + (text.charAt(i) - 'a' + 1);
            }
            this.code = sum;
            this.fact = fact;
        }
    }

    /** The TAPE, read token by token; a WORD of 8 letters at most fits a long as five bits a letter. */
    private static final class Tape {
        static final int ROOM = 1000;
        static final int NOTHING = 0;
        static final int END = 1;
        static final int WORD = 2;
        static final int NUMBER = 3;
        static final int SIGN = 4;
        static final int CANNOT_STAND = 1;
        static final int NOT_TOLD = 2;
        static final int TOLD_ALREADY = 3;
        static final int WRONG_NUMBER = 4;
        static final int TOO_MANY = 5;
        static final int WORD_LENGTH = 8;
        static final int NUMBER_LENGTH = 4;
        static final String SIGNS = "()<=+-*;";

        private final char[] signs = new char[ROOM];
        int length = 0;
        private int at = 0;
        private int place = 0;
        int kind = END;
        int number = 0;
        long code = 0;
        Word word = null;
        char sign = ' ';
        int fault = 0;

        void add(long bytes) {
            for (int shift = 56; shift >= 0; shift -= 8) {
                int next = (int) (bytes >>> shift) & 255;
                boolean fits = next == 10 || next >= 32 && next <= 126;
                if (fits && length < ROOM) {
                    signs[length] = (char) next;
                    length++;
                }
            }
        }

        void clear() {
            length = 0;
        }

        void rewind() {
            at = 0;
            fault = 0;
            next();
        }

        void next() {
            while (at < length && (signs[at] == 10 || signs[at] == ' ')) {
                at++;
            }
            place = at;
            word = null;
            if (at >= length) {
                kind = END;
                return;
            }
            char first = signs[at];
            if (first >= 'a' && first <= 'z') {
                scanWord();
            } else if (first >= '0' && first <= '9') {
                scanNumber();
            } else {
                sign = first;
                kind = SIGNS.indexOf(first) >= 0 ? SIGN : NOTHING;
                at++;
            }
        }

        private void scanWord() {
            code = 0;
            while (at < length && signs[at] >= 'a' && signs[at] <= 'z') {
                code = code * 32 + (signs[at] - 'a' + 1);
                at++;
            }
            kind = at - place > WORD_LENGTH ? NOTHING : WORD;
            for (int i = 0; i < WORDS.length && kind == WORD; i++) {
                if (WORDS[i].code == code) {
                    word = WORDS[i];
                }
            }
        }

        private void scanNumber() {
            number = 0;
            while (at < length && signs[at] >= '0' && signs[at] <= '9') {
                number = number * 10 + (signs[at] - '0');
                at++;
            }
            kind = at - place > NUMBER_LENGTH ? NOTHING : NUMBER;
        }

        boolean isName() {
            return kind == WORD && (word == null || word.fact != 0);
        }

        boolean isSign(char wanted) {
            return kind == SIGN && sign == wanted;
        }

        /** The first fault stays, whatever is asked of the same token behind it. */
        boolean wrong(int faultKind) {
            if (fault == 0) {
                fault = faultKind + 16 * place;
            }
            return false;
        }

        boolean takeWord(Word wanted) {
            if (word != wanted) {
                return wrong(CANNOT_STAND);
            }
            next();
            return true;
        }

        boolean takeSign(char wanted) {
            if (!isSign(wanted)) {
                return wrong(CANNOT_STAND);
            }
            next();
            return true;
        }

        /** NONE with a fault. */
        int takeNumber(int low, int high) {
            if (kind != NUMBER) {
                wrong(CANNOT_STAND);
                return NONE;
            }
            if (number < low || number > high) {
                wrong(WRONG_NUMBER);
                return NONE;
            }
            int taken = number;
            next();
            return taken;
        }
    }

    /** The E of worth, kept as steps on a stack: what is no less than 0 is a NUMBER, the others stand below. */
    private static final class Law {
        static final int COST = -1;
        static final int KNOWERS = -2;
        static final int AGE = -3;
        static final int HIGH = -4;
        static final int NOT = -5;
        static final int TIMES = -6;
        static final int PLUS = -7;
        static final int MINUS = -8;
        static final int LESS = -9;
        static final int SAME = -10;
        static final int AND = -11;
        static final int OR = -12;
        static final int MOST_DEEP = 5;

        private final int[] steps = new int[Tape.ROOM];
        /** Each of five depths leaves four operands at most behind it. */
        private final int[] stack = new int[4 * MOST_DEEP + 4];
        int size = 0;

        private void put(int step) {
            if (size < steps.length) {
                steps[size] = step;
                size++;
            }
        }

        private boolean readAll(Tape tape, int depth) {
            if (!readTest(tape, depth)) {
                return false;
            }
            for (int i = 0; i < Tape.ROOM && (tape.word == Word.AND || tape.word == Word.OR); i++) {
                int step = tape.word == Word.AND ? AND : OR;
                tape.next();
                if (!readTest(tape, depth)) {
                    return false;
                }
                put(step);
            }
            return true;
        }

        private boolean readTest(Tape tape, int depth) {
            if (!readSum(tape, depth)) {
                return false;
            }
            if (!tape.isSign('<') && !tape.isSign('=')) {
                return true;
            }
            int step = tape.isSign('<') ? LESS : SAME;
            tape.next();
            if (!readSum(tape, depth)) {
                return false;
            }
            put(step);
            return true;
        }

        private boolean readSum(Tape tape, int depth) {
            if (!readProduct(tape, depth)) {
                return false;
            }
            for (int i = 0; i < Tape.ROOM && (tape.isSign('+') || tape.isSign('-')); i++) {
                int step = tape.isSign('+') ? PLUS : MINUS;
                tape.next();
                if (!readProduct(tape, depth)) {
                    return false;
                }
                put(step);
            }
            return true;
        }

        private boolean readProduct(Tape tape, int depth) {
            if (!readPart(tape, depth)) {
                return false;
            }
            for (int i = 0; i < Tape.ROOM && tape.isSign('*'); i++) {
                tape.next();
                if (!readPart(tape, depth)) {
                    return false;
                }
                put(TIMES);
            }
            return true;
        }

        private boolean readPart(Tape tape, int depth) {
            boolean isNot = tape.word == Word.NOT;
            boolean isOpen = tape.isSign('(');
            boolean isFact = tape.word != null && tape.word.fact != 0;
            if (!isNot && !isOpen && !isFact && tape.kind != Tape.NUMBER) {
                return tape.wrong(Tape.CANNOT_STAND);
            }
            if (depth >= MOST_DEEP) {
                return tape.wrong(Tape.TOO_MANY);
            }
            if (isNot) {
                tape.next();
                if (!readPart(tape, depth + 1)) {
                    return false;
                }
                put(NOT);
                return true;
            }
            if (isOpen) {
                tape.next();
                return readAll(tape, depth + 1) && tape.takeSign(')');
            }
            put(isFact ? tape.word.fact : tape.number);
            tape.next();
            return true;
        }

        int value(int cost, int knowers, int age, int high) {
            int top = 0;
            for (int i = 0; i < size; i++) {
                int step = steps[i];
                if (step >= HIGH) {
                    if (top < stack.length) {
                        stack[top] = operand(step, cost, knowers, age, high);
                        top++;
                    }
                } else if (step == NOT && top >= 1) {
                    stack[top - 1] = stack[top - 1] == 0 ? 1 : 0;
                } else if (top >= 2) {
                    top--;
                    stack[top - 1] = joined(step, stack[top - 1], stack[top]);
                }
            }
            return top == 1 ? stack[0] : 0;
        }

        private static int operand(int step, int cost, int knowers, int age, int high) {
            switch (step) {
                case COST:
                    return cost;
                case KNOWERS:
                    return knowers;
                case AGE:
                    return age;
                case HIGH:
                    return high;
                default:
                    return step;
            }
        }

        private static int joined(int step, int left, int right) {
            switch (step) {
                case TIMES:
                    return left * right;
                case PLUS:
                    return left + right;
                case MINUS:
                    return left - right;
                case LESS:
                    return left < right ? 1 : 0;
                case SAME:
                    return left == right ? 1 : 0;
                case AND:
                    return left != 0 && right != 0 ? 1 : 0;
                default:
                    return left != 0 || right != 0 ? 1 : 0;
            }
        }
    }

    /** What is told of a TOWN and never changes while it is the TOWN. */
    private static final class Town {
        static final int PLAIN = 0;
        static final int GOSSIP = 1;
        static final int DEAF = 2;
        static final int PRIEST = 3;

        int people = 0;
        final long[] personName = new long[MOST_PEOPLE];
        final int[] kind = new int[MOST_PEOPLE];
        final int[] rank = new int[MOST_PEOPLE];
        final int[] tax = new int[MOST_PEOPLE];
        int priests = 0;
        int secrets = 0;
        final long[] secretName = new long[MOST_SECRETS];
        int falsehoods = 0;
        final int[] ofWhom = new int[MOST_SECRETS];
        final int[] cost = new int[MOST_SECRETS];
        final int[] on = new int[MOST_SECRETS];
        final int[] knownBy = new int[MOST_SECRETS];
        int ears = 0;
        final int[] earFrom = new int[MOST_EARS];
        final int[] earTo = new int[MOST_EARS];
        final int[] earChance = new int[MOST_PEOPLE * MOST_PEOPLE];
        int clashes = 0;
        final int[] clashing = new int[MOST_SECRETS];
        final Law law = new Law();

        void clear() {
            people = 0;
            priests = 0;
            secrets = 0;
            falsehoods = 0;
            ears = 0;
            clashes = 0;
            law.size = 0;
            Arrays.fill(earChance, NONE);
            Arrays.fill(clashing, 0);
        }

        boolean hasPerson(int person) {
            return person >= 0 && person < people;
        }

        boolean hasSecret(int secret) {
            return secret >= 0 && secret < secrets;
        }

        boolean hasPair(int person, int other) {
            return hasPerson(person) && hasPerson(other) && person != other;
        }

        int allSecrets() {
            return (1 << secrets) - 1;
        }

        int findPerson(long name) {
            for (int i = 0; i < people; i++) {
                if (personName[i] == name) {
                    return i;
                }
            }
            return NONE;
        }

        int findSecret(long name) {
            for (int i = 0; i < secrets; i++) {
                if (secretName[i] == name) {
                    return i;
                }
            }
            return NONE;
        }

        int knowers(int knowing) {
            return Integer.bitCount(knowing & ~priests);
        }

        boolean speaks(int person) {
            return kind[person] != DEAF && kind[person] != PRIEST;
        }

        int chance(int person, int other) {
            int told = earChance[person * MOST_PEOPLE + other];
            return told >= 0 && kind[person] == GOSSIP ? Math.min(told + 1, SURE) : told;
        }

        boolean agrees(int falseSet) {
            for (int i = 0; i < secrets; i++) {
                if (bit(falseSet, i) == 0 && (clashing[i] & ~falseSet) != 0) {
                    return false;
                }
            }
            return true;
        }

        /** NONE with a fault; the token stays, so that a caller may still find another fault in it. */
        int findTold(Tape tape, boolean isPerson) {
            if (!tape.isName()) {
                tape.wrong(Tape.CANNOT_STAND);
                return NONE;
            }
            int found = isPerson ? findPerson(tape.code) : findSecret(tape.code);
            if (found == NONE) {
                tape.wrong(Tape.NOT_TOLD);
            }
            return found;
        }

        /** NONE with a fault. */
        int takeTold(Tape tape, boolean isPerson) {
            int found = findTold(tape, isPerson);
            if (found != NONE) {
                tape.next();
            }
            return found;
        }

        /** At least one NAME, each once, to the end of the line: as bits, NONE with a fault. */
        int takeSet(Tape tape, boolean isPerson) {
            int set = 0;
            for (int i = 0; i <= MOST_SECRETS && (set == 0 || !tape.isSign(';')); i++) {
                int found = findTold(tape, isPerson);
                if (found == NONE) {
                    return NONE;
                }
                if (bit(set, found) == 1) {
                    tape.wrong(Tape.TOLD_ALREADY);
                    return NONE;
                }
                set |= 1 << found;
                tape.next();
            }
            return tape.takeSign(';') ? set : NONE;
        }
    }

    /** Reads into a draft, so that with a fault the TOWN stays as it is. */
    private static final class TownReader {
        private static final int TOP_TAX = 999;
        private static final int TOP_COST = 99;

        static int readTown(Tape tape, Town town) {
            town.clear();
            tape.rewind();
            for (int i = 0; i <= Tape.ROOM && tape.kind != Tape.END; i++) {
                if (!readLine(tape, town)) {
                    return tape.fault;
                }
            }
            return 0;
        }

        private static boolean readLine(Tape tape, Town town) {
            if (tape.word == Word.PERSON) {
                return readPerson(tape, town);
            }
            if (tape.word == Word.SECRET) {
                return readSecret(tape, town);
            }
            if (tape.word == Word.EAR) {
                return readEar(tape, town);
            }
            if (tape.word == Word.CLASH) {
                return readClash(tape, town);
            }
            if (tape.word == Word.WORTH) {
                return readWorth(tape, town);
            }
            return tape.wrong(Tape.CANNOT_STAND);
        }

        private static boolean takeNewName(Tape tape, Town town) {
            if (!tape.isName()) {
                return tape.wrong(Tape.CANNOT_STAND);
            }
            if (town.findPerson(tape.code) != NONE || town.findSecret(tape.code) != NONE) {
                return tape.wrong(Tape.TOLD_ALREADY);
            }
            tape.next();
            return true;
        }

        private static int kindOf(Word word) {
            if (word == Word.PLAIN) {
                return Town.PLAIN;
            }
            if (word == Word.GOSSIP) {
                return Town.GOSSIP;
            }
            if (word == Word.DEAF) {
                return Town.DEAF;
            }
            return word == Word.PRIEST ? Town.PRIEST : NONE;
        }

        private static boolean readPerson(Tape tape, Town town) {
            int i = town.people;
            if (i >= MOST_PEOPLE) {
                return tape.wrong(Tape.TOO_MANY);
            }
            tape.next();
            town.personName[i] = tape.code;
            if (!takeNewName(tape, town)) {
                return false;
            }
            town.kind[i] = kindOf(tape.word);
            if (town.kind[i] == NONE) {
                return tape.wrong(Tape.CANNOT_STAND);
            }
            tape.next();
            town.rank[i] = tape.takeWord(Word.RANK) ? tape.takeNumber(0, TOP_RANK) : NONE;
            if (town.rank[i] == NONE) {
                return false;
            }
            town.tax[i] = tape.takeWord(Word.TAX) ? tape.takeNumber(0, TOP_TAX) : NONE;
            if (town.tax[i] == NONE || !tape.takeSign(';')) {
                return false;
            }
            town.priests |= town.kind[i] == Town.PRIEST ? 1 << i : 0;
            town.people++;
            return true;
        }

        private static boolean readSecret(Tape tape, Town town) {
            int i = town.secrets;
            if (i >= MOST_SECRETS) {
                return tape.wrong(Tape.TOO_MANY);
            }
            tape.next();
            town.secretName[i] = tape.code;
            if (!takeNewName(tape, town)) {
                return false;
            }
            if (tape.word != Word.TRUE && tape.word != Word.FALSE) {
                return tape.wrong(Tape.CANNOT_STAND);
            }
            town.falsehoods |= tape.word == Word.FALSE ? 1 << i : 0;
            tape.next();
            if (!readOf(tape, town, i) || !readOn(tape, town, i) || !tape.takeWord(Word.BY)) {
                return false;
            }
            town.knownBy[i] = town.takeSet(tape, true);
            if (town.knownBy[i] == NONE) {
                return false;
            }
            town.secrets++;
            return true;
        }

        private static boolean readOf(Tape tape, Town town, int secret) {
            if (!tape.takeWord(Word.OF)) {
                return false;
            }
            town.ofWhom[secret] = town.takeTold(tape, true);
            if (town.ofWhom[secret] == NONE) {
                return false;
            }
            town.cost[secret] = tape.takeWord(Word.COSTS) ? tape.takeNumber(1, TOP_COST) : NONE;
            return town.cost[secret] != NONE;
        }

        private static boolean readOn(Tape tape, Town town, int secret) {
            town.on[secret] = NONE;
            if (tape.word != Word.ON) {
                return true;
            }
            tape.next();
            town.on[secret] = town.takeTold(tape, false);
            return town.on[secret] != NONE;
        }

        private static boolean readEar(Tape tape, Town town) {
            tape.next();
            int from = town.takeTold(tape, true);
            if (from == NONE) {
                return false;
            }
            int to = town.findTold(tape, true);
            if (to == NONE) {
                return false;
            }
            int pair = from * MOST_PEOPLE + to;
            if (to == from || town.earChance[pair] != NONE || town.ears >= MOST_EARS) {
                return tape.wrong(Tape.TOLD_ALREADY);
            }
            tape.next();
            town.earChance[pair] = tape.takeNumber(0, SURE);
            if (town.earChance[pair] == NONE) {
                return false;
            }
            town.earFrom[town.ears] = from;
            town.earTo[town.ears] = to;
            town.ears++;
            return tape.takeSign(';');
        }

        private static boolean readClash(Tape tape, Town town) {
            tape.next();
            int first = town.takeTold(tape, false);
            if (first == NONE) {
                return false;
            }
            int second = town.findTold(tape, false);
            if (second == NONE) {
                return false;
            }
            if (second == first || bit(town.clashing[first], second) == 1) {
                return tape.wrong(Tape.TOLD_ALREADY);
            }
            tape.next();
            town.clashing[first] |= 1 << second;
            town.clashing[second] |= 1 << first;
            town.clashes++;
            return tape.takeSign(';');
        }

        private static boolean readWorth(Tape tape, Town town) {
            if (town.law.size > 0) {
                return tape.wrong(Tape.TOLD_ALREADY);
            }
            tape.next();
            return town.law.readAll(tape, 0) && tape.takeSign(';');
        }
    }

    /** Reads into a draft, so that with a fault the GOSSIP stays as it is. */
    private static final class GossipReader {
        static int readGossip(Tape tape, Town town, Talk talk) {
            talk.clear();
            tape.rewind();
            for (int i = 0; i <= Tape.ROOM && tape.kind != Tape.END; i++) {
                if (!readLine(tape, town, talk)) {
                    return tape.fault;
                }
            }
            return 0;
        }

        private static boolean readLine(Tape tape, Town town, Talk talk) {
            Word word = tape.word;
            if (word != Word.TELL && word != Word.PAY && word != Word.RISE && word != Word.QUARTER) {
                return tape.wrong(Tape.CANNOT_STAND);
            }
            if (talk.lines >= MOST_LINES) {
                return tape.wrong(Tape.TOO_MANY);
            }
            tape.next();
            if (word == Word.QUARTER) {
                talk.addLine(Talk.QUARTER, 0, 0, 0);
                return tape.takeSign(';');
            }
            int who = town.takeTold(tape, true);
            if (who == NONE) {
                return false;
            }
            if (word == Word.RISE) {
                talk.addLine(Talk.RISE, who, 0, 0);
                return tape.takeSign(';');
            }
            return word == Word.TELL ? readTell(tape, town, talk, who) : readPay(tape, town, talk, who);
        }

        private static boolean readTell(Tape tape, Town town, Talk talk, int who) {
            int whom = town.findTold(tape, true);
            if (whom == NONE) {
                return false;
            }
            if (whom == who) {
                return tape.wrong(Tape.TOLD_ALREADY);
            }
            tape.next();
            int secret = town.takeTold(tape, false);
            if (secret == NONE) {
                return false;
            }
            talk.addLine(Talk.TELL, who, whom, secret);
            return tape.takeSign(';');
        }

        private static boolean readPay(Tape tape, Town town, Talk talk, int who) {
            int secrets = town.takeSet(tape, false);
            if (secrets == NONE) {
                return false;
            }
            talk.addLine(Talk.PAY, who, 0, secrets);
            return true;
        }
    }

    /** The GOSSIP, and what is SEEN: what a MARK holds beside the state, and UNDO leaves alone. */
    private static final class Talk {
        static final int TELL = 0;
        static final int PAY = 1;
        static final int RISE = 2;
        static final int QUARTER = 3;

        int lines = 0;
        final int[] deed = new int[MOST_LINES];
        final int[] who = new int[MOST_LINES];
        final int[] whom = new int[MOST_LINES];
        final int[] what = new int[MOST_LINES];
        int seen = 0;
        final int[] seenSecret = new int[MOST_SEEN];
        final int[] seenFell = new int[MOST_SEEN];

        void clear() {
            lines = 0;
            seen = 0;
        }

        void copyLines(Talk other) {
            lines = other.lines;
            System.arraycopy(other.deed, 0, deed, 0, MOST_LINES);
            System.arraycopy(other.who, 0, who, 0, MOST_LINES);
            System.arraycopy(other.whom, 0, whom, 0, MOST_LINES);
            System.arraycopy(other.what, 0, what, 0, MOST_LINES);
        }

        void copyFrom(Talk other) {
            copyLines(other);
            seen = other.seen;
            System.arraycopy(other.seenSecret, 0, seenSecret, 0, MOST_SEEN);
            System.arraycopy(other.seenFell, 0, seenFell, 0, MOST_SEEN);
        }

        void addLine(int newDeed, int newWho, int newWhom, int newWhat) {
            if (lines < MOST_LINES) {
                deed[lines] = newDeed;
                who[lines] = newWho;
                whom[lines] = newWhom;
                what[lines] = newWhat;
                lines++;
            }
        }

        boolean addSeen(int secret, boolean fell) {
            if (seen >= MOST_SEEN) {
                return false;
            }
            seenSecret[seen] = secret;
            seenFell[seen] = fell ? 1 : 0;
            seen++;
            return true;
        }
    }

    /** What TELL, PAY, RISE, QUARTER and LEND change, and so what UNDO brings back. */
    private static final class State {
        final int[] knowing = new int[MOST_SECRETS];
        /** By PERSON, a bit for each other one and SECRET. */
        private final long[] awareness = new long[MOST_PEOPLE];
        final int[] rank = new int[MOST_PEOPLE];
        final int[] fined = new int[MOST_PEOPLE];
        final int[] net = new int[MOST_PEOPLE];
        int met = 0;
        int paidSecrets = 0;
        int paidPeople = 0;
        int loans = 0;
        int quarters = 0;

        void begin(Town town) {
            System.arraycopy(town.knownBy, 0, knowing, 0, MOST_SECRETS);
            System.arraycopy(town.rank, 0, rank, 0, MOST_PEOPLE);
            Arrays.fill(awareness, 0L);
            Arrays.fill(fined, 0);
            Arrays.fill(net, 0);
            met = 0;
            paidSecrets = 0;
            paidPeople = 0;
            loans = 0;
            quarters = 0;
        }

        void copyFrom(State other) {
            System.arraycopy(other.knowing, 0, knowing, 0, MOST_SECRETS);
            System.arraycopy(other.awareness, 0, awareness, 0, MOST_PEOPLE);
            System.arraycopy(other.rank, 0, rank, 0, MOST_PEOPLE);
            System.arraycopy(other.fined, 0, fined, 0, MOST_PEOPLE);
            System.arraycopy(other.net, 0, net, 0, MOST_PEOPLE);
            met = other.met;
            paidSecrets = other.paidSecrets;
            paidPeople = other.paidPeople;
            loans = other.loans;
            quarters = other.quarters;
        }

        int known(Town town, int person) {
            int known = 0;
            for (int i = 0; i < town.secrets; i++) {
                known |= bit(knowing[i], person) << i;
            }
            return known;
        }

        boolean isAware(int person, int other, int secret) {
            return (awareness[person] >> (other * MOST_SECRETS + secret) & 1L) == 1L;
        }

        int lawWorth(Town town, int secret, int knowers) {
            int cost = town.cost[secret];
            if (town.law.size == 0) {
                return knowers >= WORTHLESS_FROM ? 0 : cost / Math.max(knowers, 1);
            }
            int worth = town.law.value(cost, knowers, quarters, rank[town.ofWhom[secret]]);
            return Math.max(0, Math.min(worth, MOST_WORTH));
        }

        /** A SECRET is on one told ahead of it, whose worth so stands already. */
        void weigh(Town town, int[] worths) {
            for (int i = 0; i < town.secrets; i++) {
                worths[i] = 0;
                if (bit(met, i) == 0) {
                    int on = town.on[i];
                    worths[i] = lawWorth(town, i, town.knowers(knowing[i])) + (on < 0 ? 0 : worths[on]);
                }
            }
        }

        boolean mayTell(Town town, int person, int other, int secret) {
            return town.hasPair(person, other) && town.hasSecret(secret) && town.speaks(person)
                && bit(knowing[secret], person) == 1 && bit(knowing[secret], other) == 0;
        }

        void whisper(Town town, int person, int other, int secret) {
            knowing[secret] |= 1 << other;
            awareness[person] |= 1L << (other * MOST_SECRETS + secret);
            awareness[other] |= 1L << (person * MOST_SECRETS + secret);
            if (bit(town.falsehoods, secret) == 1 && town.ofWhom[secret] == other) {
                met |= 1 << secret;
            }
        }

        /** For a plot, which never asks who is aware. */
        void forget(int other, int secret, int metAhead) {
            knowing[secret] &= ~(1 << other);
            met = metAhead;
        }

        int payable(Town town, int person) {
            return known(town, person) & ~paidSecrets;
        }

        boolean mayPay(Town town, int person, int secrets, int[] worths) {
            return bit(paidPeople, person) == 0 && secrets > 0 && (secrets & ~payable(town, person)) == 0
                && together(worths, secrets) >= town.tax[person];
        }

        void take(int person, int secrets) {
            paidPeople |= 1 << person;
            paidSecrets |= secrets;
        }

        int endQuarter(Town town) {
            int owing = 0;
            for (int i = 0; i < town.people; i++) {
                if (town.tax[i] > 0 && bit(paidPeople, i) == 0) {
                    owing |= 1 << i;
                    fined[i]++;
                }
            }
            paidPeople = 0;
            paidSecrets = 0;
            quarters++;
            return owing;
        }

        boolean mayLend(Town town, int person, int other, int secret) {
            return town.hasPair(person, other) && town.hasSecret(secret) && town.ofWhom[secret] == other
                && bit(knowing[secret], person) == 1 && loans < MOST_LOANS;
        }

        void owe(int lender, int debtor, int worth) {
            net[lender] += worth;
            net[debtor] -= worth;
            loans++;
        }
    }

    /** Who can pay, and by which SECRETS; the WORTH of each set of SECRETS stands ready. */
    private static final class Collector {
        private final int[] sums = new int[SECRET_SETS];
        /** By the SECRETS at hand: a bit for each set of PEOPLE who can all pay by them. */
        private final long[] payable = new long[SECRET_SETS];
        private final int[] groups = new int[PEOPLE_SETS];

        void weighSets(Town town, int[] worths) {
            sums[0] = 0;
            for (int i = 0; i < town.secrets; i++) {
                int half = 1 << i;
                for (int set = 0; set < half; set++) {
                    sums[half + set] = sums[set] + worths[i];
                }
            }
        }

        int fewest(Town town, State state, int person) {
            if (bit(state.paidPeople, person) == 1) {
                return NONE;
            }
            int own = state.payable(town, person);
            int best = NONE;
            for (int set = own; set > 0; set = (set - 1) & own) {
                if (sums[set] >= town.tax[person] && (best == NONE || isLesser(set, best))) {
                    best = set;
                }
            }
            return best;
        }

        private boolean isLesser(int set, int other) {
            int size = Integer.bitCount(set);
            int otherSize = Integer.bitCount(other);
            if (size != otherSize) {
                return size < otherSize;
            }
            return sums[set] != sums[other] ? sums[set] < sums[other] : set < other;
        }

        int mostAtOnce(Town town, State state) {
            int all = town.allSecrets();
            Arrays.fill(payable, 1L);
            for (int i = 0; i < town.people; i++) {
                if (town.tax[i] > 0 && bit(state.paidPeople, i) == 0) {
                    admit(i, town.tax[i], state.payable(town, i), all);
                }
            }
            int best = 0;
            for (int set = 1; set < PEOPLE_SETS; set++) {
                boolean can = (payable[all] >> set & 1L) == 1L;
                if (can && Integer.bitCount(set) > Integer.bitCount(best)) {
                    best = set;
                }
            }
            return best;
        }

        /** The greatest sets go first: what is left for the others is then still without this PERSON. */
        private void admit(int person, int tax, int own, int all) {
            for (int hand = all; hand > 0; hand--) {
                int usable = hand & own;
                if (sums[usable] >= tax) {
                    for (int set = usable; set > 0; set = (set - 1) & usable) {
                        if (sums[set] >= tax) {
                            payable[hand] |= payable[hand & ~set] << (1 << person);
                        }
                    }
                }
            }
        }

        /**
         * PEOPLE whose NETS cancel out among themselves save one payment for each such group; one put behind another,
         * a group more ends wherever the NETS so far come to 0.
         */
        int fewestPayments(Town town, State state) {
            groups[0] = 0;
            int all = (1 << town.people) - 1;
            for (int set = 1; set <= all; set++) {
                int most = 0;
                int net = 0;
                for (int i = 0; i < town.people; i++) {
                    if (bit(set, i) == 1) {
                        most = Math.max(most, groups[set & ~(1 << i)]);
                        net += state.net[i];
                    }
                }
                groups[set] = net == 0 ? most + 1 : most;
            }
            return town.people - groups[all];
        }
    }

    /** Two or three guests, each with what he may choose: none, or one SECRET that he knows. */
    private static final class Feast {
        private static final int MOST_GUESTS = 3;
        private static final int BASE = MOST_SECRETS + 1;

        private final int[] known = new int[MOST_GUESTS];
        private final int[] choice = new int[MOST_GUESTS];
        private int guests = 0;

        void invite(Town town, State state, int people) {
            guests = 0;
            for (int i = 0; i < town.people; i++) {
                if (bit(people, i) == 1 && guests < MOST_GUESTS) {
                    known[guests] = state.known(town, i);
                    guests++;
                }
            }
        }

        /** The wanted one of the choices at rest, or, with NONE, how many there are. */
        int atRest(int[] worths, int wanted) {
            int all = 1;
            for (int i = 0; i < guests; i++) {
                all *= BASE;
            }
            int found = 0;
            for (int digits = 0; digits < all; digits++) {
                if (choose(digits) && rest(worths)) {
                    if (found == wanted) {
                        return digits;
                    }
                    found++;
                }
            }
            return wanted == NONE ? found : NONE;
        }

        private boolean choose(int digits) {
            int left = digits;
            for (int i = guests - 1; i >= 0; i--) {
                choice[i] = left % BASE;
                left /= BASE;
                if (!mayChoose(i, choice[i])) {
                    return false;
                }
            }
            return true;
        }

        private boolean mayChoose(int guest, int chosen) {
            return chosen == 0 || bit(known[guest], chosen - 1) == 1;
        }

        private boolean rest(int[] worths) {
            for (int i = 0; i < guests; i++) {
                int mine = share(i, choice[i], worths);
                for (int other = 0; other < BASE; other++) {
                    if (mayChoose(i, other) && share(i, other, worths) > mine) {
                        return false;
                    }
                }
            }
            return true;
        }

        private int share(int guest, int chosen, int[] worths) {
            if (chosen == 0) {
                return 0;
            }
            int sharers = 1;
            for (int i = 0; i < guests; i++) {
                if (i != guest && choice[i] == chosen) {
                    sharers++;
                }
            }
            return worths[chosen - 1] / sharers - 1;
        }
    }

    /** How surely, in millionths, each set of PEOPLE is the one that knows a SECRET behind some nights. */
    private static final class Nights {
        private final long[] chances = new long[PEOPLE_SETS];
        private final long[] next = new long[PEOPLE_SETS];
        private final long[] hearing = new long[MOST_PEOPLE];
        private final int[] byKnowers = new int[KNOWER_COUNTS];

        void pass(Town town, int knowing, int nights) {
            Arrays.fill(chances, 0L);
            chances[knowing] = MILLION;
            for (int i = 0; i < nights; i++) {
                passOne(town);
            }
        }

        private void passOne(Town town) {
            int sets = 1 << town.people;
            Arrays.fill(next, 0L);
            for (int from = 0; from < sets; from++) {
                if (chances[from] > 0) {
                    listen(town, from);
                    spread(town, from, sets);
                }
            }
            System.arraycopy(next, 0, chances, 0, PEOPLE_SETS);
        }

        private void listen(Town town, int knowing) {
            for (int i = 0; i < town.people; i++) {
                long untold = MILLION;
                for (int teller = 0; teller < town.people; teller++) {
                    if (bit(knowing, teller) == 1 && teller != i && town.speaks(teller)) {
                        untold = untold * (SURE - Math.max(0, town.chance(teller, i))) / SURE;
                    }
                }
                hearing[i] = MILLION - untold;
            }
        }

        private void spread(Town town, int from, int sets) {
            for (int to = from; to < sets; to++) {
                if ((to & from) == from) {
                    next[to] += share(town, from, to) * chances[from] / MILLION;
                }
            }
        }

        private long share(Town town, int from, int to) {
            long share = MILLION;
            for (int i = 0; i < town.people; i++) {
                if (bit(from, i) == 0) {
                    long chance = bit(to, i) == 1 ? hearing[i] : MILLION - hearing[i];
                    share = share * chance / MILLION;
                }
            }
            return share;
        }

        void weighCounts(Town town, State state, int secret) {
            for (int i = 0; i <= town.people; i++) {
                byKnowers[i] = state.lawWorth(town, secret, i);
            }
        }

        long expected(Town town) {
            long sum = 0;
            for (int set = 0; set < 1 << town.people; set++) {
                sum += chances[set] * byKnowers[town.knowers(set)];
            }
            return sum;
        }

        long surety(Town town, int knowing) {
            int worthNow = byKnowers[town.knowers(knowing)];
            long sum = 0;
            for (int set = 0; set < 1 << town.people; set++) {
                if (byKnowers[town.knowers(set)] >= worthNow) {
                    sum += chances[set];
                }
            }
            return sum;
        }
    }
}
