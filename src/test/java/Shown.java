/** All that an object shows, as one text. */
final class Shown {
    private Shown() {
    }

    /** Of a reference of so many positions; also what stands one step outside of everything. */
    static String of(ReadCaller x, int positions) {
        StringBuilder text = new StringBuilder();
        int reads = x.reads();
        text.append(reads).append(" reads\n");
        for (int r = -1; r <= reads; r++) {
            addRead(text, x, r);
        }
        for (int p = -1; p <= positions; p++) {
            for (int b = -1; b <= 4; b++) {
                text.append(x.seen(p, b)).append(' ');
            }
            for (int kind = -1; kind <= 3; kind++) {
                text.append(x.links(p, kind)).append(' ');
            }
            text.append('\n');
        }
        int length = x.length();
        text.append(length).append(" letters\n");
        for (int k = -1; k <= length; k++) {
            text.append(x.letter(k)).append(' ');
        }
        return text.toString();
    }

    private static void addRead(StringBuilder text, ReadCaller x, int r) {
        for (int what = -1; what <= 5; what++) {
            text.append(x.place(r, what)).append(' ');
        }
        for (int i = -1; i <= 19; i++) {
            text.append(x.step(r, i));
        }
        text.append('\n');
    }
}
