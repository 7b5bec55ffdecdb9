import java.util.ArrayDeque;
import java.util.ArrayList;
import java.util.Deque;
import java.util.HashMap;
import java.util.HashSet;
import java.util.LinkedHashMap;
import java.util.List;
import java.util.Map;
import java.util.Set;
import java.util.TreeMap;
import java.util.TreeSet;
import java.util.function.IntBinaryOperator;
import java.util.function.ToIntFunction;

/** A second reading of the document, written with the whole library and by trying everything out. */
final class Oracle {
    private static final Set<String> RESERVED = Set.of("person", "rank", "tax", "secret", "of", "costs", "on", "by",
        "ear", "clash", "worth", "tell", "pay", "rise", "quarter", "plain", "gossip", "deaf", "priest", "true",
        "false", "not", "and", "or");
    private static final List<String> KINDS = List.of("plain", "gossip", "deaf", "priest");
    private static final Set<String> FACTS = Set.of("cost", "knowers", "age", "high");

    record Token(String text, int place, char kind) {
        boolean is(String wanted) {
            return kind != '?' && text.equals(wanted);
        }

        boolean isName() {
            return kind == 'w' && !RESERVED.contains(text);
        }
    }

    static final class Fault extends Exception {
        private static final long serialVersionUID = 1;
        final int number;

        Fault(int kind, Token at) {
            number = kind + 16 * at.place;
        }
    }

    record Person(String name, int kind, int rank, int tax) {
    }

    record Secret(String name, boolean isFalse, int of, int cost, int on, Set<Integer> by) {
    }

    record Facts(int cost, int knowers, int age, int high) {
    }

    record Line(String deed, int who, int whom, Set<Integer> what) {
    }

    record Aware(int who, int whom, int secret) {
    }

    record Loan(int lender, int debtor, int worth) {
    }

    record Seen(int secret, boolean fell) {
    }

    static final class Place {
        final List<Person> people = new ArrayList<>();
        final List<Secret> secrets = new ArrayList<>();
        final Map<List<Integer>, Integer> ears = new LinkedHashMap<>();
        final Set<Set<Integer>> clashes = new HashSet<>();
        ToIntFunction<Facts> law = null;

        int find(String name, boolean isPerson) {
            for (int i = 0; i < (isPerson ? people.size() : secrets.size()); i++) {
                if ((isPerson ? people.get(i).name() : secrets.get(i).name()).equals(name)) {
                    return i;
                }
            }
            return -1;
        }
    }

    static final class World {
        List<Set<Integer>> knows = new ArrayList<>();
        Set<Aware> aware = new HashSet<>();
        List<Integer> ranks = new ArrayList<>();
        Set<Integer> met = new HashSet<>();
        Set<Integer> paidSecrets = new HashSet<>();
        Set<Integer> paidPeople = new HashSet<>();
        List<Integer> fined = new ArrayList<>();
        List<Loan> loans = new ArrayList<>();
        int quarter = 0;

        static World start(Place place) {
            World w = new World();
            for (Secret s : place.secrets) {
                w.knows.add(new TreeSet<>(s.by()));
            }
            for (Person p : place.people) {
                w.ranks.add(p.rank());
                w.fined.add(0);
            }
            return w;
        }

        World copy() {
            World w = new World();
            for (Set<Integer> k : knows) {
                w.knows.add(new TreeSet<>(k));
            }
            w.aware.addAll(aware);
            w.ranks.addAll(ranks);
            w.met.addAll(met);
            w.paidSecrets.addAll(paidSecrets);
            w.paidPeople.addAll(paidPeople);
            w.fined.addAll(fined);
            w.loans.addAll(loans);
            w.quarter = quarter;
            return w;
        }
    }

    record Mark(World world, List<Line> lines, List<Seen> seen) {
    }

    private final StringBuilder tape = new StringBuilder();
    private Place place = new Place();
    private World world = new World();
    private List<Line> lines = new ArrayList<>();
    private List<Seen> seen = new ArrayList<>();
    private final Deque<World> undo = new ArrayDeque<>();
    private final Map<Integer, Mark> marks = new HashMap<>();
    private List<Token> tokens = new ArrayList<>();
    private int at = 0;

    int feed(long a, long b, long c) {
        for (long v : new long[] {a, b, c}) {
            for (int i = 7; i >= 0; i--) {
                int sign = (int) (v >>> (8 * i) & 0xff);
                if ((sign == 10 || sign >= 32 && sign < 127) && tape.length() < 1000) {
                    tape.append((char) sign);
                }
            }
        }
        return tape.length();
    }

    // ---- the language

    private void cut() {
        tokens = new ArrayList<>();
        at = 0;
        java.util.regex.Matcher m = java.util.regex.Pattern.compile("[a-z]+|[0-9]+|[^ \n]").matcher(tape);
        while (m.find()) {
            String t = m.group();
            char first = t.charAt(0);
            char kind = '?';
            if (first >= 'a' && first <= 'z') {
                kind = t.length() <= 8 ? 'w' : '?';
            } else if (first >= '0' && first <= '9') {
                kind = t.length() <= 4 ? 'n' : '?';
            } else if ("()<=+-*;".contains(t)) {
                kind = 's';
            }
            tokens.add(new Token(t, m.start(), kind));
        }
        tokens.add(new Token("", tape.length(), 'e'));
        tape.setLength(0);
    }

    private Token look() {
        return tokens.get(at);
    }

    private void want(String text) throws Fault {
        if (!look().is(text)) {
            throw new Fault(1, look());
        }
        at++;
    }

    private int number(int low, int high) throws Fault {
        Token t = look();
        if (t.kind() != 'n') {
            throw new Fault(1, t);
        }
        int n = Integer.parseInt(t.text());
        if (n < low || n > high) {
            throw new Fault(4, t);
        }
        at++;
        return n;
    }

    private String newName(Place p) throws Fault {
        Token t = look();
        if (!t.isName()) {
            throw new Fault(1, t);
        }
        if (p.find(t.text(), true) >= 0 || p.find(t.text(), false) >= 0) {
            throw new Fault(3, t);
        }
        at++;
        return t.text();
    }

    private int told(Place p, boolean isPerson, Set<Integer> notThese) throws Fault {
        Token t = look();
        if (!t.isName()) {
            throw new Fault(1, t);
        }
        int found = p.find(t.text(), isPerson);
        if (found < 0) {
            throw new Fault(2, t);
        }
        if (notThese.contains(found)) {
            throw new Fault(3, t);
        }
        at++;
        return found;
    }

    private Set<Integer> toldOnes(Place p, boolean isPerson) throws Fault {
        Set<Integer> ones = new TreeSet<>();
        do {
            ones.add(told(p, isPerson, ones));
        } while (!look().is(";"));
        want(";");
        return ones;
    }

    int town() {
        cut();
        Place p = new Place();
        try {
            while (look().kind() != 'e') {
                townLine(p);
            }
        } catch (Fault f) {
            return f.number;
        }
        place = p;
        world = World.start(p);
        lines = new ArrayList<>();
        seen = new ArrayList<>();
        undo.clear();
        marks.clear();
        return 0;
    }

    private void townLine(Place p) throws Fault {
        Token first = look();
        if (first.is("person")) {
            if (p.people.size() == 6) {
                throw new Fault(5, first);
            }
            at++;
            String name = newName(p);
            int kind = KINDS.indexOf(look().text());
            if (kind < 0) {
                throw new Fault(1, look());
            }
            at++;
            want("rank");
            int rank = number(0, 9);
            want("tax");
            int tax = number(0, 999);
            want(";");
            p.people.add(new Person(name, kind, rank, tax));
        } else if (first.is("secret")) {
            secretLine(p, first);
        } else if (first.is("ear")) {
            at++;
            int from = told(p, true, Set.of());
            Set<Integer> taken = new HashSet<>(Set.of(from));
            for (List<Integer> pair : p.ears.keySet()) {
                if (pair.get(0) == from) {
                    taken.add(pair.get(1));
                }
            }
            int to = told(p, true, taken);
            p.ears.put(List.of(from, to), number(0, 10));
            want(";");
        } else if (first.is("clash")) {
            at++;
            int one = told(p, false, Set.of());
            Set<Integer> taken = new HashSet<>(Set.of(one));
            for (Set<Integer> pair : p.clashes) {
                if (pair.contains(one)) {
                    taken.addAll(pair);
                }
            }
            p.clashes.add(Set.of(one, told(p, false, taken)));
            want(";");
        } else if (first.is("worth")) {
            if (p.law != null) {
                throw new Fault(3, first);
            }
            at++;
            p.law = either(0);
            want(";");
        } else {
            throw new Fault(1, first);
        }
    }

    private void secretLine(Place p, Token first) throws Fault {
        if (p.secrets.size() == 10) {
            throw new Fault(5, first);
        }
        at++;
        String name = newName(p);
        boolean isFalse = look().is("false");
        if (!isFalse && !look().is("true")) {
            throw new Fault(1, look());
        }
        at++;
        want("of");
        int of = told(p, true, Set.of());
        want("costs");
        int cost = number(1, 99);
        int on = -1;
        if (look().is("on")) {
            at++;
            on = told(p, false, Set.of());
        }
        want("by");
        p.secrets.add(new Secret(name, isFalse, of, cost, on, toldOnes(p, true)));
    }

    int gossip() {
        cut();
        List<Line> read = new ArrayList<>();
        try {
            while (look().kind() != 'e') {
                Token first = look();
                if (!Set.of("tell", "pay", "rise", "quarter").contains(first.text())) {
                    throw new Fault(1, first);
                }
                if (read.size() == 30) {
                    throw new Fault(5, first);
                }
                at++;
                read.add(gossipLine(first.text()));
            }
        } catch (Fault f) {
            return f.number;
        }
        lines = read;
        return 0;
    }

    private Line gossipLine(String deed) throws Fault {
        int who = deed.equals("quarter") ? -1 : told(place, true, Set.of());
        int whom = -1;
        Set<Integer> what = Set.of();
        if (deed.equals("pay")) {
            return new Line(deed, who, whom, toldOnes(place, false));
        }
        if (deed.equals("tell")) {
            whom = told(place, true, Set.of(who));
            what = Set.of(told(place, false, Set.of()));
        }
        want(";");
        return new Line(deed, who, whom, what);
    }

    private static ToIntFunction<Facts> both(ToIntFunction<Facts> a, ToIntFunction<Facts> b, IntBinaryOperator how) {
        return f -> how.applyAsInt(a.applyAsInt(f), b.applyAsInt(f));
    }

    private ToIntFunction<Facts> either(int depth) throws Fault {
        ToIntFunction<Facts> e = test(depth);
        while (look().is("and") || look().is("or")) {
            boolean and = look().is("and");
            at++;
            e = both(e, test(depth), (x, y) -> (and ? x != 0 && y != 0 : x != 0 || y != 0) ? 1 : 0);
        }
        return e;
    }

    private ToIntFunction<Facts> test(int depth) throws Fault {
        ToIntFunction<Facts> e = sum(depth);
        if (look().is("<")) {
            at++;
            return both(e, sum(depth), (x, y) -> x < y ? 1 : 0);
        }
        if (look().is("=")) {
            at++;
            return both(e, sum(depth), (x, y) -> x == y ? 1 : 0);
        }
        return e;
    }

    private ToIntFunction<Facts> sum(int depth) throws Fault {
        ToIntFunction<Facts> e = product(depth);
        while (look().is("+") || look().is("-")) {
            int by = look().is("+") ? 1 : -1;
            at++;
            e = both(e, product(depth), (x, y) -> x + by * y);
        }
        return e;
    }

    private ToIntFunction<Facts> product(int depth) throws Fault {
        ToIntFunction<Facts> e = part(depth);
        while (look().is("*")) {
            at++;
            e = both(e, part(depth), (x, y) -> x * y);
        }
        return e;
    }

    private ToIntFunction<Facts> part(int depth) throws Fault {
        Token t = look();
        boolean begins = t.kind() == 'n' || t.is("not") || t.is("(") || FACTS.contains(t.text());
        if (!begins) {
            throw new Fault(1, t);
        }
        if (depth == 5) {
            throw new Fault(5, t);
        }
        at++;
        if (t.kind() == 'n') {
            int n = Integer.parseInt(t.text());
            return f -> n;
        }
        if (t.is("not")) {
            ToIntFunction<Facts> e = part(depth + 1);
            return f -> e.applyAsInt(f) == 0 ? 1 : 0;
        }
        if (t.is("(")) {
            ToIntFunction<Facts> e = either(depth + 1);
            want(")");
            return e;
        }
        return switch (t.text()) {
            case "cost" -> Facts::cost;
            case "knowers" -> Facts::knowers;
            case "age" -> Facts::age;
            default -> Facts::high;
        };
    }

    // ---- worths and deeds

    private boolean hasPerson(int p) {
        return p >= 0 && p < place.people.size();
    }

    private boolean hasSecret(int s) {
        return s >= 0 && s < place.secrets.size();
    }

    private static int bits(Iterable<Integer> ones) {
        int bits = 0;
        for (int i : ones) {
            bits |= 1 << i;
        }
        return bits;
    }

    private static Set<Integer> ones(int bits) {
        Set<Integer> ones = new TreeSet<>();
        for (int i = 0; i < 31; i++) {
            if ((bits >> i & 1) == 1) {
                ones.add(i);
            }
        }
        return ones;
    }

    private int knowers(Set<Integer> people) {
        int n = 0;
        for (int p : people) {
            n += place.people.get(p).kind() == 3 ? 0 : 1;
        }
        return n;
    }

    private int law(World w, int s, Set<Integer> people) {
        Secret secret = place.secrets.get(s);
        int k = knowers(people);
        if (place.law == null) {
            return k >= 5 ? 0 : k == 0 ? secret.cost() : secret.cost() / k;
        }
        int e = place.law.applyAsInt(new Facts(secret.cost(), k, w.quarter, w.ranks.get(secret.of())));
        return e < 0 ? 0 : e > 999 ? 999 : e;
    }

    private int worth(World w, int s) {
        if (w.met.contains(s)) {
            return 0;
        }
        int on = place.secrets.get(s).on();
        return law(w, s, w.knows.get(s)) + (on < 0 ? 0 : worth(w, on));
    }

    private int worths(World w, Iterable<Integer> secrets) {
        int sum = 0;
        for (int s : secrets) {
            sum += worth(w, s);
        }
        return sum;
    }

    private int allWorths(World w) {
        return worths(w, ones((1 << place.secrets.size()) - 1));
    }

    private Set<Integer> known(World w, int p) {
        Set<Integer> known = new TreeSet<>();
        for (int s = 0; s < place.secrets.size(); s++) {
            if (w.knows.get(s).contains(p)) {
                known.add(s);
            }
        }
        return known;
    }

    private boolean tellIn(World w, int p, int q, int s) {
        if (!hasPerson(p) || !hasPerson(q) || p == q || !hasSecret(s) || place.people.get(p).kind() >= 2) {
            return false;
        }
        if (!w.knows.get(s).contains(p) || w.knows.get(s).contains(q)) {
            return false;
        }
        w.knows.get(s).add(q);
        w.aware.add(new Aware(p, q, s));
        w.aware.add(new Aware(q, p, s));
        if (place.secrets.get(s).isFalse() && place.secrets.get(s).of() == q) {
            w.met.add(s);
        }
        return true;
    }

    private boolean payIn(World w, int p, Set<Integer> secrets) {
        if (w.paidPeople.contains(p) || secrets.isEmpty() || !known(w, p).containsAll(secrets)) {
            return false;
        }
        for (int s : secrets) {
            if (w.paidSecrets.contains(s)) {
                return false;
            }
        }
        if (worths(w, secrets) < place.people.get(p).tax()) {
            return false;
        }
        w.paidPeople.add(p);
        w.paidSecrets.addAll(secrets);
        return true;
    }

    private boolean riseIn(World w, int p) {
        if (w.ranks.get(p) == 9) {
            return false;
        }
        w.ranks.set(p, w.ranks.get(p) + 1);
        return true;
    }

    private Set<Integer> quarterIn(World w) {
        Set<Integer> late = new TreeSet<>();
        for (int p = 0; p < place.people.size(); p++) {
            if (place.people.get(p).tax() > 0 && !w.paidPeople.contains(p)) {
                late.add(p);
                w.fined.set(p, w.fined.get(p) + 1);
            }
        }
        w.paidPeople.clear();
        w.paidSecrets.clear();
        w.quarter++;
        return late;
    }

    private void keep(World ahead) {
        undo.addLast(ahead);
        if (undo.size() > 16) {
            undo.removeFirst();
        }
    }

    int net(World w, int p) {
        int net = 0;
        for (Loan l : w.loans) {
            net += (l.lender() == p ? l.worth() : 0) - (l.debtor() == p ? l.worth() : 0);
        }
        return net;
    }

    int person(int p, int what) {
        if (!hasPerson(p) || what < 0 || what > 7) {
            return Check.THROWN;
        }
        Person one = place.people.get(p);
        return switch (what) {
            case 0 -> one.kind();
            case 1 -> world.ranks.get(p);
            case 2 -> one.tax();
            case 3 -> bits(known(world, p));
            case 4 -> worths(world, known(world, p));
            case 5 -> world.paidPeople.contains(p) ? 1 : 0;
            case 6 -> world.fined.get(p);
            default -> net(world, p);
        };
    }

    int secret(int s, int what) {
        if (!hasSecret(s) || what < 0 || what > 9) {
            return -1;
        }
        Secret one = place.secrets.get(s);
        Set<Integer> clashing = new TreeSet<>();
        for (Set<Integer> pair : place.clashes) {
            if (pair.contains(s)) {
                clashing.addAll(pair);
            }
        }
        clashing.remove(s);
        return switch (what) {
            case 0 -> one.isFalse() ? 1 : 0;
            case 1 -> one.of();
            case 2 -> one.cost();
            case 3 -> one.on();
            case 4 -> bits(world.knows.get(s));
            case 5 -> knowers(world.knows.get(s));
            case 6 -> worth(world, s);
            case 7 -> world.met.contains(s) ? 1 : 0;
            case 8 -> world.paidSecrets.contains(s) ? 1 : 0;
            default -> bits(clashing);
        };
    }

    int aware(int p, int q, int s) {
        if (!hasPerson(p) || !hasPerson(q) || p == q || !hasSecret(s)) {
            return -1;
        }
        return world.aware.contains(new Aware(p, q, s)) ? 1 : 0;
    }

    int ear(int p, int q) {
        Integer told = place.ears.get(List.of(p, q));
        if (told == null) {
            return -1;
        }
        return place.people.get(p).kind() == 1 && told < 10 ? told + 1 : told;
    }

    int tell(int p, int q, int s) {
        World ahead = world.copy();
        if (!tellIn(world, p, q, s)) {
            return -1;
        }
        keep(ahead);
        return worth(world, s);
    }

    int pay(int p, int secrets) {
        World ahead = world.copy();
        if (!hasPerson(p) || secrets < 0 || !payIn(world, p, ones(secrets))) {
            return -1;
        }
        keep(ahead);
        return worths(world, ones(secrets));
    }

    int rise(int p) {
        World ahead = world.copy();
        if (!hasPerson(p) || !riseIn(world, p)) {
            return -1;
        }
        keep(ahead);
        return world.ranks.get(p);
    }

    int quarter() {
        keep(world.copy());
        return bits(quarterIn(world));
    }

    int lend(int p, int q, int s) {
        if (!hasPerson(p) || !hasPerson(q) || p == q || !hasSecret(s) || place.secrets.get(s).of() != q
            || !world.knows.get(s).contains(p) || world.loans.size() == 12) {
            return -1;
        }
        keep(world.copy());
        world.loans.add(new Loan(p, q, worth(world, s)));
        return worth(world, s);
    }

    boolean undo() {
        if (undo.isEmpty()) {
            return false;
        }
        world = undo.removeLast();
        return true;
    }

    int judged(int what) {
        World w = World.start(place);
        int first = -1;
        int fined = 0;
        for (int i = 0; i < lines.size(); i++) {
            Line l = lines.get(i);
            boolean can = true;
            switch (l.deed()) {
                case "tell" -> can = tellIn(w, l.who(), l.whom(), l.what().iterator().next());
                case "pay" -> can = payIn(w, l.who(), l.what());
                case "rise" -> can = riseIn(w, l.who());
                default -> fined += quarterIn(w).size();
            }
            if (!can && first < 0) {
                first = i;
            }
        }
        return what == 0 ? first : what == 1 ? fined : what == 2 ? allWorths(w) : -2;
    }

    // ---- what is found by trying all

    private int leastIn(World w, int p) {
        int best = -1;
        for (int set = 1; set < 1 << place.secrets.size(); set++) {
            if (!payIn(w.copy(), p, ones(set))) {
                continue;
            }
            if (best < 0 || Integer.bitCount(set) < Integer.bitCount(best)
                || Integer.bitCount(set) == Integer.bitCount(best) && worths(w, ones(set)) < worths(w, ones(best))) {
                best = set;
            }
        }
        return best;
    }

    int least(int p) {
        return hasPerson(p) ? leastIn(world, p) : -1;
    }

    /** Gives each secret in turn to one of the people or to nobody. */
    private boolean allCan(List<Integer> payers, int[] left, int secret) {
        boolean done = true;
        for (int l : left) {
            done &= l <= 0;
        }
        if (done) {
            return true;
        }
        if (secret == place.secrets.size()) {
            return false;
        }
        int worth = worth(world, secret);
        if (worth > 0 && !world.paidSecrets.contains(secret)) {
            for (int i = 0; i < left.length; i++) {
                if (left[i] > 0 && world.knows.get(secret).contains(payers.get(i))) {
                    left[i] -= worth;
                    boolean can = allCan(payers, left, secret + 1);
                    left[i] += worth;
                    if (can) {
                        return true;
                    }
                }
            }
        }
        return allCan(payers, left, secret + 1);
    }

    int payers() {
        int best = 0;
        for (int set = 1; set < 1 << place.people.size(); set++) {
            List<Integer> those = new ArrayList<>(ones(set));
            boolean fit = Integer.bitCount(set) > Integer.bitCount(best);
            int[] left = new int[those.size()];
            for (int i = 0; i < left.length; i++) {
                left[i] = place.people.get(those.get(i)).tax();
                fit &= left[i] > 0 && !world.paidPeople.contains(those.get(i));
            }
            if (fit && allCan(those, left, 0)) {
                best = set;
            }
        }
        return best;
    }

    private int gain(World w, int p, int q) {
        return worths(w, known(w, p)) - worths(w, known(w, q));
    }

    int plot(int p, int q, int many, int what) {
        if (!hasPerson(p) || !hasPerson(q) || p == q || many < 0 || many > 2 || what < 0 || what > 3) {
            return Check.THROWN;
        }
        int[] best = {gain(world, p, q), 0, -1, -1};
        for (int n = 1; n <= many; n++) {
            for (int a = 0; a < 60; a++) {
                World one = world.copy();
                if (!tellIn(one, p, a / 10, a % 10)) {
                    continue;
                }
                if (n == 1) {
                    if (gain(one, p, q) > best[0]) {
                        best = new int[] {gain(one, p, q), 1, a, -1};
                    }
                    continue;
                }
                for (int b = 0; b < 60; b++) {
                    World two = one.copy();
                    if (tellIn(two, p, b / 10, b % 10) && gain(two, p, q) > best[0]) {
                        best = new int[] {gain(two, p, q), 2, a, b};
                    }
                }
            }
        }
        return best[what];
    }

    boolean see(int s, boolean fell) {
        return hasSecret(s) && seen.size() < 10 && seen.add(new Seen(s, fell));
    }

    int leaks(int what) {
        List<Set<Integer>> sets = new ArrayList<>();
        for (int set = 0; set < 1 << place.people.size(); set++) {
            boolean so = true;
            for (Seen one : seen) {
                Set<Integer> leakers = ones(set);
                leakers.retainAll(world.knows.get(one.secret()));
                so &= one.fell() != leakers.isEmpty();
            }
            if (so) {
                sets.add(ones(set));
            }
        }
        if (what == 0) {
            return sets.size();
        }
        if (what < 0 || what > 3 || sets.isEmpty()) {
            return -1;
        }
        return inAll(sets, what);
    }

    private static int inAll(List<Set<Integer>> sets, int what) {
        Set<Integer> all = new TreeSet<>(sets.get(0));
        Set<Integer> some = new TreeSet<>();
        Set<Integer> smallest = sets.get(0);
        for (Set<Integer> set : sets) {
            all.retainAll(set);
            some.addAll(set);
            smallest = set.size() < smallest.size() ? set : smallest;
        }
        return bits(what == 1 ? all : what == 2 ? some : smallest);
    }

    int lies(int what) {
        TreeMap<Integer, List<Set<Integer>>> bySize = new TreeMap<>();
        for (int set = 0; set < 1 << place.secrets.size(); set++) {
            boolean fine = true;
            for (Set<Integer> pair : place.clashes) {
                boolean hit = false;
                for (int s : pair) {
                    hit |= (set >> s & 1) == 1;
                }
                fine &= hit;
            }
            if (fine) {
                bySize.computeIfAbsent(Integer.bitCount(set), k -> new ArrayList<>()).add(ones(set));
            }
        }
        List<Set<Integer>> fewest = bySize.firstEntry().getValue();
        return switch (what) {
            case 0 -> bySize.firstKey();
            case 1 -> bits(fewest.get(0));
            case 2 -> fewest.size();
            case 3 -> inAll(fewest, 1);
            default -> -1;
        };
    }

    private Map<Set<Integer>, Long> nights(int s, int nights) {
        Map<Set<Integer>, Long> chances = new HashMap<>();
        chances.put(new TreeSet<>(world.knows.get(s)), 1000000L);
        for (int n = 0; n < nights; n++) {
            Map<Set<Integer>, Long> next = new HashMap<>();
            for (Map.Entry<Set<Integer>, Long> e : chances.entrySet()) {
                List<Integer> outside = new ArrayList<>();
                for (int p = 0; p < place.people.size(); p++) {
                    if (!e.getKey().contains(p)) {
                        outside.add(p);
                    }
                }
                grow(e.getKey(), e.getValue(), outside, next);
            }
            chances = next;
        }
        return chances;
    }

    private void grow(Set<Integer> from, long chance, List<Integer> outside, Map<Set<Integer>, Long> next) {
        for (int pick = 0; pick < 1 << outside.size(); pick++) {
            long product = 1000000;
            Set<Integer> to = new TreeSet<>(from);
            for (int i = 0; i < outside.size(); i++) {
                long untold = 1000000;
                for (int teller : from) {
                    int by = ear(teller, outside.get(i));
                    if (by >= 0 && place.people.get(teller).kind() < 2) {
                        untold = untold * (10 - by) / 10;
                    }
                }
                boolean hears = (pick >> i & 1) == 1;
                product = product * (hears ? 1000000 - untold : untold) / 1000000;
                if (hears) {
                    to.add(outside.get(i));
                }
            }
            next.merge(to, product * chance / 1000000, Long::sum);
        }
    }

    int mean(int s, int nights) {
        if (!hasSecret(s) || nights < 0 || nights > 30) {
            return -1;
        }
        long sum = 0;
        for (Map.Entry<Set<Integer>, Long> e : nights(s, nights).entrySet()) {
            sum += law(world, s, e.getKey()) * e.getValue();
        }
        return (int) (sum / 1000);
    }

    int holds(int s, int nights) {
        if (!hasSecret(s) || nights < 0 || nights > 30) {
            return -1;
        }
        long sum = 0;
        for (Map.Entry<Set<Integer>, Long> e : nights(s, nights).entrySet()) {
            sum += law(world, s, e.getKey()) >= law(world, s, world.knows.get(s)) ? e.getValue() : 0;
        }
        return (int) sum;
    }

    int settle() {
        int[] nets = new int[place.people.size()];
        for (int p = 0; p < nets.length; p++) {
            nets[p] = net(world, p);
        }
        return fewestFrom(nets, 0);
    }

    /** Some fewest payments clear one person after another, each by one payment to another. */
    private static int fewestFrom(int[] nets, int from) {
        int at = from;
        while (at < nets.length && nets[at] == 0) {
            at++;
        }
        if (at == nets.length) {
            return 0;
        }
        int best = Integer.MAX_VALUE;
        for (int other = at + 1; other < nets.length; other++) {
            if (nets[other] > 0 != nets[at] > 0 && nets[other] != 0) {
                nets[other] += nets[at];
                int rest = fewestFrom(nets, at + 1);
                nets[other] -= nets[at];
                best = Math.min(best, 1 + rest);
            }
        }
        return best;
    }

    int rests(int people, int what) {
        if (people < 0 || people >= 1 << place.people.size() || what < -1) {
            return -1;
        }
        List<Integer> guests = new ArrayList<>(ones(people));
        if (guests.size() != 2 && guests.size() != 3) {
            return -1;
        }
        List<Integer> found = new ArrayList<>();
        choose(guests, new ArrayList<>(), found);
        return what == -1 ? found.size() : what < found.size() ? found.get(what) : -1;
    }

    private void choose(List<Integer> guests, List<Integer> chosen, List<Integer> found) {
        if (chosen.size() == guests.size()) {
            for (int i = 0; i < guests.size(); i++) {
                List<Integer> other = new ArrayList<>(chosen);
                for (int c = 0; c <= place.secrets.size(); c++) {
                    if (c == 0 || world.knows.get(c - 1).contains(guests.get(i))) {
                        other.set(i, c);
                        if (has(other, i) > has(chosen, i)) {
                            return;
                        }
                    }
                }
            }
            int digits = 0;
            for (int c : chosen) {
                digits = digits * 11 + c;
            }
            found.add(digits);
            return;
        }
        for (int c = 0; c <= place.secrets.size(); c++) {
            if (c == 0 || world.knows.get(c - 1).contains(guests.get(chosen.size()))) {
                List<Integer> more = new ArrayList<>(chosen);
                more.add(c);
                choose(guests, more, found);
            }
        }
    }

    private int has(List<Integer> chosen, int guest) {
        int c = chosen.get(guest);
        return c == 0 ? 0 : worth(world, c - 1) / java.util.Collections.frequency(chosen, c) - 1;
    }

    private java.math.BigInteger g = java.math.BigInteger.ZERO;

    private int draw(int below) {
        g = g.multiply(java.math.BigInteger.valueOf(1103515245)).add(java.math.BigInteger.valueOf(12345))
            .mod(java.math.BigInteger.valueOf(2147483648L));
        return (int) (g.longValue() / 65536 % below);
    }

    int years(int seed, int nights, int what) {
        if (seed < 0 || seed > 9999 || nights < 1 || nights > 100 || what < 0 || what > 2) {
            return -1;
        }
        World w = world.copy();
        g = java.math.BigInteger.valueOf(seed);
        int tellings = 0;
        int fined = 0;
        for (int n = 1; n <= nights; n++) {
            for (List<Integer> pair : place.ears.keySet()) {
                if (draw(10) < ear(pair.get(0), pair.get(1)) && !place.secrets.isEmpty()
                    && tellIn(w, pair.get(0), pair.get(1), draw(place.secrets.size()))) {
                    tellings++;
                }
            }
            if (n % 10 == 0) {
                for (int p = 0; p < place.people.size(); p++) {
                    int by = place.people.get(p).tax() > 0 ? leastIn(w, p) : -1;
                    if (by > 0) {
                        payIn(w, p, ones(by));
                    }
                }
                fined += quarterIn(w).size();
            }
        }
        return what == 0 ? tellings : what == 1 ? fined : allWorths(w);
    }

    boolean mark(int mark, boolean back) {
        if (mark < 0 || mark > 3 || back && !marks.containsKey(mark)) {
            return false;
        }
        if (back) {
            Mark m = marks.get(mark);
            world = m.world().copy();
            lines = m.lines();
            seen = new ArrayList<>(m.seen());
            undo.clear();
        } else {
            marks.put(mark, new Mark(world.copy(), lines, new ArrayList<>(seen)));
        }
        return true;
    }

    int count(int what) {
        return switch (what) {
            case 0 -> place.people.size();
            case 1 -> place.secrets.size();
            case 2 -> place.ears.size();
            case 3 -> place.clashes.size();
            case 4 -> world.quarter;
            case 5 -> allWorths(world);
            case 6 -> lines.size();
            case 7 -> seen.size();
            case 8 -> world.loans.size();
            case 9 -> undo.size();
            case 10 -> tape.length();
            default -> -1;
        };
    }
}
