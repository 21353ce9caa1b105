/**
 * An object that has made one call, for looking at what it shows. Nothing is promised about an
 * object after its 512th call, so a new one repeats the beginning before that is reached.
 */
final class Run {
    private static final int MOST_CALLS = 512;

    private final String[] before;
    private final int beforeK;
    private final String reference;
    private final String reads;
    private final int k;
    private ReadCaller caller;
    private int calls;
    private int answer;

    Run(String reference, String reads, int k) {
        this(null, 0, reference, reads, k);
    }

    /** Another call, of the two texts in before, is made first on the same object. */
    Run(String[] before, int beforeK, String reference, String reads, int k) {
        this.before = before;
        this.beforeK = beforeK;
        this.reference = reference;
        this.reads = reads;
        this.k = k;
        renew();
    }

    /** Puts a whole text behind what is there; answers how many calls that took. */
    static int putAll(ReadCaller caller, int text, String characters) {
        int calls = 0;
        for (int from = 0; from < characters.length(); from += 4) {
            int n = Math.min(4, characters.length() - from);
            Check.same("put of a text's part", caller.put(text, word(characters.substring(from, from + n)), n), true);
            calls++;
        }
        return calls;
    }

    static int word(String characters) {
        int word = 0;
        for (int i = 0; i < characters.length(); i++) {
            word = word << 8 | characters.charAt(i);
        }
        return word;
    }

    int answer() {
        return answer;
    }

    /** The object, for one more call. */
    ReadCaller x() {
        if (calls == MOST_CALLS) {
            renew();
        }
        calls++;
        return caller;
    }

    String table() {
        StringBuilder text = new StringBuilder();
        int length = x().length();
        for (int i = 0; i < length; i++) {
            text.append((char) x().letter(i));
        }
        return text.toString();
    }

    /** The script of a read, a digit a step. */
    String script(int r) {
        StringBuilder text = new StringBuilder();
        for (int i = 0; i < 100; i++) {
            int step = x().step(r, i);
            if (step == 0) {
                break;
            }
            text.append(step);
        }
        return text.toString();
    }

    /** State, s, e, distance and direction of a read. */
    String place(int r) {
        StringBuilder text = new StringBuilder();
        for (int what = 0; what <= 4; what++) {
            text.append(what == 0 ? "" : " ").append(x().place(r, what));
        }
        return text.toString();
    }

    private void renew() {
        caller = new ReadCaller();
        calls = 0;
        if (before != null) {
            calls += putAll(caller, 0, before[0]) + putAll(caller, 1, before[1]);
            caller.call(beforeK);
            caller.clear(0);
            caller.clear(1);
            calls += 3;
        }
        calls += putAll(caller, 0, reference) + putAll(caller, 1, reads);
        answer = caller.call(k);
        calls++;
    }
}
