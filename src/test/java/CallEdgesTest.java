import java.util.ArrayList;
import java.util.List;

/** The edges of promises 1, 5 and 6, and of the whole object: a method for each sentence that names one. */
final class CallEdgesTest {
    private static final String BASES = "GATTAC";
    private static final String REFERENCE = ">r\n" + BASES + "\n";
    private static final String READS = Reads.read("GACTAC", 40) + Reads.read("CCCC", 0);
    private static final String OTHER_REFERENCE = ">other\nCCA\nTTG\n";
    private static final String OTHER_READS = Reads.read("CCATNG", 9) + Reads.read("CAAT", 3) + Reads.read("GGGG", 1);
    private static final int POSITIONS = BASES.length();
    private static final int MOST_CALLS = 512;

    private CallEdgesTest() {
    }

    public static void main(String[] args) {
        aNewObjectShowsNothing();
        kIs0To3();
        kGoesBeforeText0AndThatBeforeText1();
        refusedCallsOfANewObjectChangeNothing();
        refusedCallsChangeNothing();
        refusedCallsDoNotSpoilLaterOnes();
        theLatestCallIsShownWhenTheTextsChange();
        anEmptyText1HasNoReads();
        thereAreUpTo8Reads();
        theSmallestReference();
        all512CallsAreAnswered();
        nothingIsThrown();
        Check.end();
    }

    private static ReadCaller called(String reference, String reads, int k, int due) {
        ReadCaller x = new ReadCaller();
        Run.putAll(x, 0, reference);
        Run.putAll(x, 1, reads);
        Check.same("call(" + k + ")", x.call(k), due);
        return x;
    }

    /** Other texts instead of those that are there. */
    private static void renew(ReadCaller x, String reference, String reads) {
        x.clear(0);
        x.clear(1);
        Run.putAll(x, 0, reference);
        Run.putAll(x, 1, reads);
    }

    private static String ofFirstCall() {
        return Shown.of(called(REFERENCE, READS, 1, 1), POSITIONS);
    }

    /** "Empty texts, nothing run"; reads, length: "0 when nothing was called". */
    private static void aNewObjectShowsNothing() {
        ReadCaller x = new ReadCaller();
        Check.same("size(0)", x.size(0), 0);
        Check.same("size(1)", x.size(1), 0);
        Check.same("reads()", x.reads(), 0);
        Check.same("length()", x.length(), 0);
        for (int i = -1; i <= 1; i++) {
            for (int j = -1; j <= 5; j++) {
                Check.same("place", x.place(i, j), -1);
                Check.same("step", x.step(i, j), 0);
                Check.same("seen", x.seen(i, j), 0);
                Check.same("links", x.links(i, j), 0);
            }
            Check.same("letter", x.letter(i), 0);
        }
        // Texts alone show nothing either.
        Run.putAll(x, 0, REFERENCE);
        Run.putAll(x, 1, READS);
        Check.same("texts without a call", Shown.of(x, POSITIONS), Shown.of(new ReadCaller(), POSITIONS));
    }

    /** "NONE when k is not 0 .. 3." */
    private static void kIs0To3() {
        int[] others = {Integer.MIN_VALUE, -1000, -2, -1, 4, 5, 256, Integer.MAX_VALUE};
        for (int k : others) {
            called(REFERENCE, READS, k, -1);
        }
        called(REFERENCE, READS, 0, 0);
        for (int k = 1; k <= 3; k++) {
            called(REFERENCE, READS, k, 1);
        }
    }

    /** "NONE when k is not 0 .. 3, else -1000 - the place in text 0, else -2000 - that in text 1." */
    private static void kGoesBeforeText0AndThatBeforeText1() {
        for (int k = -1; k <= 4; k++) {
            boolean right = k >= 0 && k <= 3;
            called("", "", k, right ? -1000 : -1);
            called("", "x", k, right ? -1000 : -1);
            called(">a\nx", "@x", k, right ? -1003 : -1);
            called(REFERENCE, "x", k, right ? -2000 : -1);
            called(REFERENCE, "@x", k, right ? -2002 : -1);
            called(REFERENCE, "", k, right ? 0 : -1);
        }
    }

    /** "These change nothing", nor the object that was never called. */
    private static void refusedCallsOfANewObjectChangeNothing() {
        String nothing = Shown.of(new ReadCaller(), POSITIONS);
        String[][] texts = refusedTexts();
        for (String[] refused : texts) {
            ReadCaller x = called(refused[0], refused[1], Integer.parseInt(refused[2]), Integer.parseInt(refused[3]));
            Check.same("what a refused first call shows", Shown.of(x, POSITIONS), nothing);
            Check.same("size(0)", x.size(0), refused[0].length());
            Check.same("size(1)", x.size(1), refused[1].length());
        }
    }

    /** "These change nothing (what is shown stays that of the call before)." */
    private static void refusedCallsChangeNothing() {
        String first = ofFirstCall();
        String[][] texts = refusedTexts();
        for (String[] refused : texts) {
            ReadCaller x = called(REFERENCE, READS, 1, 1);
            renew(x, refused[0], refused[1]);
            int k = Integer.parseInt(refused[2]);
            Check.same("call(" + k + ")", x.call(k), Integer.parseInt(refused[3]));
            Check.same("what is shown behind a refused call", Shown.of(x, POSITIONS), first);
        }
    }

    /** Texts, k and the refusal: a wrong k, and texts that end or go wrong at each of their places. */
    private static String[][] refusedTexts() {
        int lineEnd = OTHER_REFERENCE.indexOf("\nTTG") + 1;
        int readEnd = OTHER_READS.indexOf('@', 1);
        int secondEnd = OTHER_READS.indexOf('@', readEnd + 1);
        List<String[]> all = new ArrayList<>();
        all.add(new String[] {OTHER_REFERENCE, OTHER_READS, "-1", "-1"});
        all.add(new String[] {OTHER_REFERENCE, OTHER_READS, "4", "-1"});
        for (int n = 0; n <= OTHER_REFERENCE.length(); n++) {
            String begin = OTHER_REFERENCE.substring(0, n);
            if (n != lineEnd && n != OTHER_REFERENCE.length()) {
                all.add(new String[] {begin, OTHER_READS, "2", "" + (-1000 - n)});
            }
            if (n == 0 || n > begin.indexOf('\n') && begin.indexOf('\n') > 0) {
                all.add(new String[] {begin + "x", OTHER_READS, "2", "" + (-1000 - n)});
            }
        }
        for (int n = 0; n <= OTHER_READS.length(); n++) {
            String begin = OTHER_READS.substring(0, n);
            if (n > 0 && n != readEnd && n != secondEnd && n != OTHER_READS.length()) {
                all.add(new String[] {OTHER_REFERENCE, begin, "2", "" + (-2000 - n)});
            }
            if (n < OTHER_READS.length() && OTHER_READS.charAt(n) != '@') {
                all.add(new String[] {OTHER_REFERENCE, begin + " ", "2", "" + (-2000 - n)});
            }
        }
        return all.toArray(new String[0][]);
    }

    /** A refused call has read a part of its texts; a later one shows nothing of that. */
    private static void refusedCallsDoNotSpoilLaterOnes() {
        String first = ofFirstCall();
        String[][] texts = refusedTexts();
        for (String[] refused : texts) {
            ReadCaller x = called(refused[0], refused[1], Integer.parseInt(refused[2]), Integer.parseInt(refused[3]));
            renew(x, REFERENCE, READS);
            Check.same("call(1)", x.call(1), 1);
            Check.same("what is shown behind a call after a refused one", Shown.of(x, POSITIONS), first);
        }
    }

    /** "All that follows shows the latest call that was not refused, also when the texts have changed." */
    private static void theLatestCallIsShownWhenTheTextsChange() {
        String first = ofFirstCall();
        ReadCaller x = called(REFERENCE, READS, 1, 1);
        Check.same("put", x.put(0, 'C', 1), true);
        Check.same("put", x.put(1, '@', 1), true);
        Check.same("what is shown behind put", Shown.of(x, POSITIONS), first);
        x = called(REFERENCE, READS, 1, 1);
        x.clear(0);
        x.clear(1);
        Check.same("what is shown behind clear", Shown.of(x, POSITIONS), first);
        x = called(REFERENCE, READS, 1, 1);
        renew(x, OTHER_REFERENCE, OTHER_READS);
        Check.same("what is shown behind new texts", Shown.of(x, POSITIONS), first);
        // The same texts again, with the same k and with another one.
        x = called(REFERENCE, READS, 0, 0);
        Check.same("call(1)", x.call(1), 1);
        Check.same("call(1)", x.call(1), 1);
        Check.same("what is shown behind the same call", Shown.of(x, POSITIONS), first);
        x = called(OTHER_REFERENCE, OTHER_READS, 2, 0);
        renew(x, REFERENCE, READS);
        Check.same("call(1)", x.call(1), 1);
        Check.same("what is shown behind the second call", Shown.of(x, POSITIONS), first);
    }

    /** "An empty text 1 has no reads and no error." */
    private static void anEmptyText1HasNoReads() {
        for (int k = 0; k <= 3; k++) {
            ReadCaller x = called(REFERENCE, "", k, 0);
            Check.same("reads()", x.reads(), 0);
            Check.same("length()", x.length(), 69);
        }
        ReadCaller x = called(REFERENCE, READS, 1, 1);
        x.clear(1);
        Check.same("call(1)", x.call(1), 0);
        String without = Shown.of(called(REFERENCE, "", 1, 0), POSITIONS);
        Check.same("what is shown without reads", Shown.of(x, POSITIONS), without);
    }

    /** "The number of reads"; "at most 8 READS". */
    private static void thereAreUpTo8Reads() {
        for (int n = 0; n <= 8; n++) {
            ReadCaller x = called(REFERENCE, Reads.some(n, "CCCC", 1), 0, 0);
            Check.same("reads()", x.reads(), n);
            Check.same("the last one", x.place(n - 1, 0), n == 0 ? -1 : 1);
            Check.same("the one behind it", x.place(n, 0), -1);
        }
        called(REFERENCE, Reads.some(9, "CCCC", 1), 0, -2120);
    }

    /** "One or more LINES, each of one or more BASES": a reference of one position has no site of links. */
    private static void theSmallestReference() {
        ReadCaller x = called(">r\nA\n", Reads.some(8, "CANN", 93), 3, 0);
        Check.same("seen(0, 0)", x.seen(0, 0), 8);
        for (int kind = 0; kind < 3; kind++) {
            Check.same("links(0, " + kind + ")", x.links(0, kind), 0);
        }
        Check.same("seen(1, 0)", x.seen(1, 0), 0);
        Check.same("length()", x.length(), 69);
    }

    /** "An object is used for at most 512 calls after it has been made." */
    private static void all512CallsAreAnswered() {
        ReadCaller x = new ReadCaller();
        int calls = Run.putAll(x, 0, REFERENCE) + Run.putAll(x, 1, READS);
        while (calls < MOST_CALLS - 3) {
            int k = calls % 4;
            Check.same("call(" + k + ")", x.call(k), k == 0 ? 0 : 1);
            calls++;
        }
        Check.same("the 510th call", x.call(1), 1);
        Check.same("the 511th call", x.size(1), READS.length());
        Check.same("the 512th call", x.letter(68), 10);
        x = new ReadCaller();
        for (calls = 0; calls < MOST_CALLS - 1; calls++) {
            Check.same("put", x.put(1, 'A', 1), calls < 420);
        }
        Check.same("the 512th call", x.size(1), 420);
    }

    /** Nothing reaches the caller of any method, whatever it is given and whatever was called before. */
    private static void nothingIsThrown() {
        int[] edges = {Integer.MIN_VALUE, -1, 0, 1, 2, 3, 4, 5, 7, 8, 16, 19, 47, 48, 68, 69, Integer.MAX_VALUE};
        String[][] texts = {{"", ""}, {REFERENCE, READS}, {OTHER_REFERENCE, OTHER_READS}, {REFERENCE, "@"}, {">", ""}};
        for (String[] each : texts) {
            for (int a : edges) {
                ReadCaller x = new ReadCaller();
                renew(x, each[0], each[1]);
                x.call(2);
                String thrown = "nothing";
                try {
                    callAll(x, a, edges);
                } catch (RuntimeException e) {
                    thrown = e.toString();
                }
                Check.same("what is thrown", thrown, "nothing");
            }
        }
    }

    private static void callAll(ReadCaller x, int a, int[] edges) {
        for (int b : edges) {
            x.place(a, b);
            x.step(a, b);
            x.seen(a, b);
            x.links(a, b);
            x.put(a, b, a);
            x.put(b, a, 4);
        }
        x.call(a);
        x.letter(a);
        x.size(a);
        x.clear(a);
        x.call(3);
    }
}
