import java.util.NoSuchElementException;

/** What every test of the project uses: texts fed to the tape, answers compared, the exit code. */
final class Check {
    static final int THROWN = Integer.MIN_VALUE;
    private static int wrong = 0;
    private static int asked = 0;

    private Check() {
    }

    static void due(String call, long got, long want) {
        asked++;
        if (got != want) {
            wrong++;
            System.out.println(call + " answered " + got + ", due is " + want);
        }
    }

    static void due(String call, boolean got, boolean want) {
        due(call, got ? 1 : 0, want ? 1 : 0);
    }

    static void end() {
        System.out.println(asked + " answers, " + wrong + " wrong");
        if (wrong != 0 || asked == 0) {
            System.exit(1);
        }
    }

    static boolean failed() {
        return wrong != 0;
    }

    static int feed(PaidSecrets x, String text) {
        int length = x.feed(0, 0, 0);
        for (int i = 0; i < text.length(); i += 24) {
            length = x.feed(word(text, i), word(text, i + 8), word(text, i + 16));
        }
        return length;
    }

    static long word(String text, int from) {
        long bytes = 0;
        for (int i = from; i < from + 8; i++) {
            bytes = bytes << 8 | (i < text.length() ? text.charAt(i) & 255 : 0);
        }
        return bytes;
    }

    static int town(PaidSecrets x, String text) {
        feed(x, text);
        return x.town();
    }

    static int gossip(PaidSecrets x, String text) {
        feed(x, text);
        return x.gossip();
    }

    static PaidSecrets of(String text) {
        PaidSecrets x = new PaidSecrets();
        due("town of " + text, town(x, text), 0);
        return x;
    }

    static void fine(String text) {
        due("town of " + text, town(new PaidSecrets(), text), 0);
    }

    /** The sign ^ stands ahead of the wrong token. */
    static void townFault(int kind, String marked) {
        due("town of " + marked, town(new PaidSecrets(), unmarked(marked)), kind + 16 * marked.indexOf('^'));
    }

    /** The same in a GOSSIP, behind a TOWN. */
    static void gossipFault(int kind, String town, String marked) {
        due("gossip of " + marked, gossip(of(town), unmarked(marked)), kind + 16 * marked.indexOf('^'));
    }

    static String unmarked(String marked) {
        int place = marked.indexOf('^');
        return marked.substring(0, place) + marked.substring(place + 1);
    }

    /** All that can be asked of what a call may change, for TOWNS of a few PEOPLE and SECRETS. */
    static String all(PaidSecrets x) {
        StringBuilder text = new StringBuilder();
        for (int what = 0; what <= 10; what++) {
            text.append(x.count(what)).append(' ');
        }
        int people = x.count(0);
        int secrets = x.count(1);
        for (int i = 0; i < people; i++) {
            for (int what = 0; what <= 7; what++) {
                text.append(person(x, i, what)).append(' ');
            }
            for (int j = 0; j < people; j++) {
                for (int k = 0; k < secrets && i != j; k++) {
                    text.append(x.aware(i, j, k)).append(' ');
                }
            }
        }
        for (int k = 0; k < secrets; k++) {
            for (int what = 0; what <= 9; what++) {
                text.append(x.secret(k, what)).append(' ');
            }
        }
        for (int what = 0; what <= 2; what++) {
            text.append(x.judged(what)).append(' ').append(x.leaks(what)).append(' ');
        }
        return text.toString();
    }

    static int person(PaidSecrets x, int person, int what) {
        try {
            return x.person(person, what);
        } catch (NoSuchElementException e) {
            return THROWN;
        }
    }

    static int plot(PaidSecrets x, int person, int other, int many, int what) {
        try {
            return x.plot(person, other, many, what);
        } catch (NoSuchElementException e) {
            return THROWN;
        }
    }
}
