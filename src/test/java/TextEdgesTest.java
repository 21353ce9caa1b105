/** The edges of promises 2 to 4 and of TEXTS: a method for each sentence of the document that names one. */
final class TextEdgesTest {
    private static final String VISIBLE = visible();
    private static final String ALL = VISIBLE + " \n";
    private static final String BASES = "ACGT";
    private static final String LETTERS = "ACGTN";
    private static final int[] NO_TEXTS = {Integer.MIN_VALUE, -2, -1, 2, 3, 256, Integer.MAX_VALUE};

    private TextEdgesTest() {
    }

    public static void main(String[] args) {
        putTakesTheLowestBytesTheHighestFirst();
        putRefusesWhenThereIsNoSuchText();
        putRefusesWhenNIsNot1To4();
        putRefusesWhatIsNoCharacter();
        putRefusesWhatIsTooMuch(0, 100);
        putRefusesWhatIsTooMuch(1, 420);
        noneOfARefusedPutIsPut();
        clearRefusesWhenThereIsNoSuchText();
        clearEmptiesAnEmptyAndAFullText();
        sizeIsNoneWhenThereIsNoSuchText();
        whatMayStandInText0();
        whatMayStandInText1();
        qualitiesAreAsManyAsLetters();
        theErrorOfFullTexts();
        onlyTheFirstErrorCounts();
        Check.end();
    }

    private static String visible() {
        StringBuilder text = new StringBuilder();
        for (char c = 33; c <= 126; c++) {
            text.append(c);
        }
        return text.toString();
    }

    /** "Appends the n lowest bytes of word (n is 1 .. 4), the highest of them first." */
    private static void putTakesTheLowestBytesTheHighestFirst() {
        String text = ">a\nA\n";
        for (int n = 1; n <= 4; n++) {
            ReadCaller x = new ReadCaller();
            for (int from = 0; from < text.length(); from += n) {
                String part = text.substring(from, Math.min(text.length(), from + n));
                // What stands above the n bytes has no part in it, though it may not be put.
                int above = part.length() == 4 ? 0 : -1 << 8 * part.length();
                Check.same("put", x.put(0, above | Run.word(part), part.length()), true);
                Check.same("size(0)", x.size(0), from + part.length());
            }
            Check.same("call(0) of what was put by " + n, x.call(0), 0);
        }
    }

    /** "False, changing nothing, when there is no such text." */
    private static void putRefusesWhenThereIsNoSuchText() {
        ReadCaller x = new ReadCaller();
        for (int text : NO_TEXTS) {
            Check.same("put into text " + text, x.put(text, 'A', 1), false);
        }
        sizes(x, 0, 0);
        Check.same("put into text 0", x.put(0, 'A', 1), true);
        sizes(x, 1, 0);
        Check.same("put into text 1", x.put(1, 'A', 1), true);
        sizes(x, 1, 1);
    }

    /** "False, changing nothing, when n is not as said" (1 .. 4). */
    private static void putRefusesWhenNIsNot1To4() {
        int[] others = {Integer.MIN_VALUE, -4, -1, 0, 5, 6, 257, Integer.MAX_VALUE};
        for (int text = 0; text <= 1; text++) {
            ReadCaller x = new ReadCaller();
            for (int n : others) {
                Check.same("put of " + n, x.put(text, Run.word("AAAA"), n), false);
                Check.same("size", x.size(text), 0);
            }
            int size = 0;
            for (int n = 1; n <= 4; n++) {
                size += n;
                Check.same("put of " + n, x.put(text, Run.word("AAAA"), n), true);
                Check.same("size", x.size(text), size);
            }
        }
    }

    /** "Characters 10 (newline) and 32 .. 126"; false "when one of them is no character as said". */
    private static void putRefusesWhatIsNoCharacter() {
        int[] right = {10, 32, 33, 125, 126};
        int[] wrong = {0, 1, 9, 11, 13, 31, 127, 128, 138, 255};
        for (int text = 0; text <= 1; text++) {
            for (int n = 1; n <= 4; n++) {
                for (int at = 0; at < n; at++) {
                    ReadCaller x = new ReadCaller();
                    for (int c : wrong) {
                        Check.same("put of character " + c, x.put(text, withByte(at, c), n), false);
                        Check.same("size", x.size(text), 0);
                    }
                    for (int c : right) {
                        Check.same("put of character " + c, x.put(text, withByte(at, c), n), true);
                    }
                    Check.same("size", x.size(text), right.length * n);
                }
            }
        }
    }

    private static int withByte(int at, int c) {
        return Run.word("AAAA") & ~(255 << 8 * at) | c << 8 * at;
    }

    /** False when "the text would have more than 100 (text 0) or 420 (text 1)". */
    private static void putRefusesWhatIsTooMuch(int text, int room) {
        for (int n = 1; n <= 4; n++) {
            ReadCaller x = filled(text, room - n + 1);
            Check.same("put of one too many", x.put(text, Run.word("AAAA"), n), false);
            Check.same("size", x.size(text), room - n + 1);
            x = filled(text, room - n);
            Check.same("put of the last " + n, x.put(text, Run.word("AAAA"), n), true);
            Check.same("size", x.size(text), room);
            for (int m = 1; m <= 4; m++) {
                Check.same("put of " + m + " into a full text", x.put(text, Run.word("AAAA"), m), false);
            }
            Check.same("size", x.size(text), room);
            Check.same("put into the other text", x.put(1 - text, 'A', 1), true);
        }
    }

    private static ReadCaller filled(int text, int size) {
        ReadCaller x = new ReadCaller();
        Run.putAll(x, text, "A".repeat(size));
        Check.same("size", x.size(text), size);
        return x;
    }

    /** "Changing nothing (none of them is put)." */
    private static void noneOfARefusedPutIsPut() {
        ReadCaller x = new ReadCaller();
        Run.putAll(x, 0, ">a\n");
        for (int at = 0; at < 4; at++) {
            Check.same("put with a TAB", x.put(0, withByte(at, 9), 4), false);
        }
        Run.putAll(x, 0, "C\n");
        Run.putAll(x, 1, "@a\n");
        Check.same("put with a TAB", x.put(1, Run.word("AC\tT"), 4), false);
        Check.same("call(0)", x.call(0), -2003);
        Check.same("clear(1)", x.clear(1), true);
        Check.same("call(0)", x.call(0), 0);
        // A text that is right up to its room stays right when more is refused.
        x = new ReadCaller();
        Run.putAll(x, 0, ">abcdefgh\n" + "A\n".repeat(41) + "A".repeat(7) + "\n");
        Check.same("size(0)", x.size(0), 100);
        Check.same("put into a full text", x.put(0, 'x', 1), false);
        Check.same("call(0)", x.call(0), 0);
    }

    /** "False when there is no such text." */
    private static void clearRefusesWhenThereIsNoSuchText() {
        ReadCaller x = new ReadCaller();
        Run.putAll(x, 0, "A");
        Run.putAll(x, 1, "AA");
        for (int text : NO_TEXTS) {
            Check.same("clear(" + text + ")", x.clear(text), false);
        }
        sizes(x, 1, 2);
        Check.same("clear(0)", x.clear(0), true);
        sizes(x, 0, 2);
        Check.same("clear(1)", x.clear(1), true);
        sizes(x, 0, 0);
    }

    /** "The text becomes empty." */
    private static void clearEmptiesAnEmptyAndAFullText() {
        for (int text = 0; text <= 1; text++) {
            int room = text == 0 ? 100 : 420;
            ReadCaller x = new ReadCaller();
            Check.same("clear of an empty text", x.clear(text), true);
            Check.same("size", x.size(text), 0);
            Run.putAll(x, text, "A".repeat(room));
            Check.same("clear of a full text", x.clear(text), true);
            Check.same("size", x.size(text), 0);
            Check.same("put into the text", x.put(text, Run.word("AAAA"), 4), true);
            Check.same("size", x.size(text), 4);
        }
    }

    /** "NONE when there is no such text." */
    private static void sizeIsNoneWhenThereIsNoSuchText() {
        ReadCaller x = new ReadCaller();
        Run.putAll(x, 0, "A");
        for (int text : NO_TEXTS) {
            Check.same("size(" + text + ")", x.size(text), -1);
        }
        sizes(x, 1, 0);
    }

    private static void sizes(ReadCaller x, int ofText0, int ofText1) {
        Check.same("size(0)", x.size(0), ofText0);
        Check.same("size(1)", x.size(1), ofText1);
    }

    /** "> , a NAME, newline, then one or more LINES, each of one or more BASES and a newline; at most 48 BASES." */
    private static void whatMayStandInText0() {
        behindReference("", ">", false);
        behindReference(">", VISIBLE, false);
        behindReference(">!", VISIBLE + "\n", false);
        behindReference(">~~~~~~~", VISIBLE + "\n", false);
        behindReference(">abcdefgh", "\n", false);
        behindReference(">a\n", BASES, false);
        behindReference(">abcdefgh\n", BASES, false);
        behindReference(">a\nA", BASES + "\n", false);
        behindReference(">a\nA\n", BASES, true);
        behindReference(">a\nACGT\nT", BASES + "\n", false);
        behindReference(">a\n" + "C".repeat(47), BASES + "\n", false);
        behindReference(">a\n" + "C".repeat(47) + "\n", BASES, true);
        behindReference(">a\n" + "C".repeat(48), "\n", false);
        behindReference(">a\n" + "C".repeat(48) + "\n", "", true);
        behindReference(">a\n" + "G\n".repeat(47), BASES, true);
        behindReference(">a\n" + "G\n".repeat(47) + "T", "\n", false);
        behindReference(">a\n" + "G\n".repeat(48), "", true);
    }

    /** "At most 8 READS, each: @ , a NAME, newline, 4 to 16 letters, newline, + , newline, qualities, newline." */
    private static void whatMayStandInText1() {
        behindReads("", "@", true);
        behindReads("@", VISIBLE, false);
        behindReads("@!", VISIBLE + "\n", false);
        behindReads("@~~~~~~~", VISIBLE + "\n", false);
        behindReads("@abcdefgh", "\n", false);
        behindReads("@a\n", LETTERS, false);
        behindReads("@abcdefgh\nNNN", LETTERS, false);
        behindReads("@a\nACGT", LETTERS + "\n", false);
        behindReads("@a\nACGTNACGTNACGTN", LETTERS + "\n", false);
        behindReads("@a\nACGTNACGTNACGTNA", "\n", false);
        behindReads("@a\nACGT\n", "+", false);
        behindReads("@a\nACGT\n+", "\n", false);
        behindReads("@a\nACGT\n+\n", VISIBLE, false);
        behindReads("@a\nACGT\n+\n!!!!\n", "@", true);
        String read = Reads.read("ACGT", 0);
        behindReads(read.repeat(7), "@", true);
        behindReads(read.repeat(7) + "@", VISIBLE, false);
        behindReads(read.repeat(8), "", true);
        String longest = "@abcdefgh\n" + "N".repeat(16) + "\n+\n" + "~".repeat(16) + "\n";
        behindReads(longest.repeat(7), "@", true);
        behindReads(longest.repeat(8), "", true);
    }

    /** "As many characters 33 .. 126 as there were letters, newline." */
    private static void qualitiesAreAsManyAsLetters() {
        for (int n = 4; n <= 16; n++) {
            String begin = "@a\n" + "N".repeat(n) + "\n+\n";
            behindReads(begin + "@".repeat(n - 1), VISIBLE, false);
            behindReads(begin + "@".repeat(n), "\n", false);
            Due.reads(begin + "@".repeat(n) + "\n", -1);
            // Each read has its own number.
            Due.reads(begin + "+".repeat(n) + "\n" + Reads.read("ACGT", 93) + begin + "!".repeat(n) + "\n", -1);
        }
    }

    private static void behindReference(String begin, String may, boolean mayEnd) {
        Due.reference(begin, mayEnd ? -1 : begin.length());
        for (int i = 0; i < ALL.length(); i++) {
            String text = begin + ALL.charAt(i);
            mayStand(text, new Run(text, "", 0).answer() + 1000, may.indexOf(ALL.charAt(i)) >= 0);
        }
    }

    private static void behindReads(String begin, String may, boolean mayEnd) {
        Due.reads(begin, mayEnd ? -1 : begin.length());
        for (int i = 0; i < ALL.length(); i++) {
            String text = begin + ALL.charAt(i);
            mayStand(text, new Run(">a\nA\n", text, 0).answer() + 2000, may.indexOf(ALL.charAt(i)) >= 0);
        }
    }

    /** Whether a text's last character is right; the answer of call is given less the code of the error. */
    private static void mayStand(String text, int answer, boolean due) {
        int last = text.length() - 1;
        if (due) {
            Check.same("no error in " + text, answer > 0 || answer == -last - 1, true);
        } else {
            Check.same("the error in " + text, -answer, last);
        }
    }

    /** "Behind its last character when it ends where it may not end"; "also one that is too much". */
    private static void theErrorOfFullTexts() {
        String right = ">abcdefgh\n" + "A\n".repeat(41) + "A".repeat(7) + "\n";
        Check.same("characters", right.length(), 100);
        Due.reference(right, -1);
        Due.reference(">abcdefgh\n" + "A\n".repeat(41) + "A".repeat(8), 99);
        Due.reference(">abcdefgh\n" + "A\n".repeat(42) + "A".repeat(6), 100);
        Due.reference(">abcdefgh\n" + "A\n".repeat(42) + "A".repeat(5) + ">", 99);
        Due.reference("x".repeat(100), 0);
        String longest = "@abcdefgh\n" + "N".repeat(16) + "\n+\n" + "~".repeat(16) + "\n";
        Due.reads(longest.repeat(8), -1);
        Due.reads(longest.repeat(8) + "@".repeat(52), 368);
        Due.reads(longest.repeat(7) + longest.substring(0, 45), 367);
        Due.reads("x".repeat(420), 0);
        Due.reads("@" + "a".repeat(419), 9);
    }

    /** "The first error of a text is at its first character that may not stand there." */
    private static void onlyTheFirstErrorCounts() {
        Due.reference("", 0);
        Due.reference("x>a\nA\n", 0);
        Due.reference(">a b\nx\n", 2);
        Due.reference(">a\nAxyC", 4);
        Due.reference(">a\nAC\n\n\n", 6);
        Due.reads("x", 0);
        Due.reads("@a\nACG\n-\n!!!!!\n", 6);
        Due.reads("@a\nACGT\n\n+\n!!!!!\n", 8);
        Due.reads("@a\nACGT\n+\n!!!!!!\nx", 14);
        Due.reads(Reads.read("ACGT", 0) + "@\nA", 16);
    }
}
