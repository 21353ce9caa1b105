/** The example of README.md. */
final class Example {
    private Example() {
    }

    public static void main(String[] args) {
        ReadCaller caller = new ReadCaller();
        putAll(caller, 0, ">ref\nGATTACAGGCTC\nCATGTTCGAACT\n");
        putAll(caller, 1, "@one\nTTACAGGATCCATG\n+\nIIIIIIIIIIIIII\n");
        putAll(caller, 1, "@two\nCATGGATCCTGTAA\n+\nIIIIIIIIIIIIII\n"); // the other strand
        putAll(caller, 1, "@three\nCTCCATGCGAACT\n+\nIIIIIIIIIIIII\n");

        int reported = caller.call(2);
        if (reported < 0) {
            System.out.println("refused: " + reported);
            return;
        }
        System.out.println(reported + " sites differ");
        for (int r = 0; r < caller.reads(); r++) {
            if (caller.place(r, 0) == 0) {
                System.out.println("read " + r + " is placed at " + caller.place(r, 1) + " to " + caller.place(r, 2)
                    + (caller.place(r, 4) == 1 ? ", backward" : ""));
            }
        }
        System.out.println("A is seen " + caller.seen(9, 0) + " times at position 9");
        int length = caller.length();
        for (int k = 0; k < length; k++) {
            System.out.print((char) caller.letter(k));
        }
    }

    /** Puts four characters a call, the first of them as the highest byte. */
    private static void putAll(ReadCaller caller, int text, String characters) {
        for (int from = 0; from < characters.length(); from += 4) {
            int n = Math.min(4, characters.length() - from);
            int word = 0;
            for (int i = 0; i < n; i++) {
                word = word << 8 | characters.charAt(from + i);
            }
            caller.put(text, word, n);
        }
    }
}
