/** Promises 6 and 7: reads and place. */
final class PlacesTest {
    private PlacesTest() {
    }

    public static void main(String[] args) {
        forwardAndBackward();
        theLeastDistanceCounts();
        lostReads();
        doubtfulReads();
        optimaThatOverlap();
        theOrderAmongOptima();
        unknownLetters();
        whatThereIsNot();
        Check.end();
    }

    private static void forwardAndBackward() {
        Due.place(Reads.BASES, "GATTACAG", 0, "0 0 8 0 0");
        Due.place(Reads.BASES, "CTCCATGTT", 3, "0 9 18 0 0");
        Due.place(Reads.BASES, Reads.opposite("CTCCATGTT"), 0, "0 9 18 0 1");
        Due.place(Reads.BASES, "TTCGAACT", 0, "0 16 24 0 0");
        Due.place(Reads.BASES, Reads.opposite("ACAGGCTCCATG"), 2, "0 4 16 0 1");
    }

    private static void theLeastDistanceCounts() {
        Due.place(Reads.BASES, "GATTACAGGCTC".replace("ACA", "ATA"), 1, "0 0 12 1 0");
        Due.place(Reads.BASES, "GATTAAGGCTC", 1, "0 0 12 1 0");
        Due.place(Reads.BASES, "GATTACTAGGCTC", 1, "0 0 12 1 0");
        Due.place(Reads.BASES, Reads.opposite("GGCTCCGTTCGA"), 2, "0 7 21 2 1");
        Due.place(Reads.BASES, "GGCTCCGTTCGA", 3, "0 7 21 2 0");
    }

    private static void lostReads() {
        Due.place(Reads.BASES, "GATTAAGGCTC", 0, Due.LOST);
        Due.place(Reads.BASES, "GGCTCCGTTCGA", 1, Due.LOST);
        Due.place("A", "ACCCC", 3, Due.LOST);
        Due.place("A", "CACC", 3, "0 0 1 3 0");
        Due.place("A", "CACC", 2, Due.LOST);
        Due.place("ACGTACGT", "NNNN", 3, Due.LOST);
    }

    private static void doubtfulReads() {
        // Two optima side by side share no position; two that overlap in one position do.
        Due.place("GGAAGGAA", "GGAA", 0, Due.DOUBTFUL);
        Due.place("GAGGAGGAG", "GAGGAG", 0, "0 0 6 0 0");
        Due.place("GAGGAGGAGCT", "GAGG", 0, "0 0 4 0 0");
        Due.place("CAACAACAACAA", "CAAC", 0, Due.DOUBTFUL);
        Due.place("CAACAAC", "CAAC", 0, "0 0 4 0 0");
        // One forward, one backward, apart from one another.
        Due.place("AAGAGCTCTT", "AAGAG", 0, Due.DOUBTFUL);
        // Both directions, the same interval.
        Due.place("CAATTC", "AATT", 0, "0 1 5 0 0");
    }

    private static void optimaThatOverlap() {
        Due.place("CAAAAAC", "AAAA", 0, "0 1 5 0 0");
        Due.place("CAAAAAAAC", "AAAA", 0, "0 1 5 0 0");
        Due.place("CAAAAAAAAC", "AAAA", 0, Due.DOUBTFUL);
    }

    private static void theOrderAmongOptima() {
        // A change of the last letter, or leaving it away, are both one step: the shorter interval is taken.
        Due.place("ACGTTACCA", "ACGTTAG", 1, "0 0 6 1 0");
        // The first letter changed, or put in: the interval from before it starts earlier.
        Due.place("TACGTTAC", "GACGTTAC", 1, "0 0 8 1 0");
        // A backward optimum that starts earlier goes before a forward one.
        Due.place("GAATTC", "AATTC", 0, "0 0 5 0 1");
        Due.place("GAATTC", "GAATT", 0, "0 0 5 0 0");
        Due.place("GGAATTCAG", "TGAATT", 0, "0 2 8 0 1");
    }

    private static void unknownLetters() {
        Due.place(Reads.BASES, "GATTNCAG", 1, "0 0 8 1 0");
        Due.place(Reads.BASES, "GATTNCAG", 0, Due.LOST);
        Due.place(Reads.BASES, Reads.opposite("GATTNCAG"), 1, "0 0 8 1 1");
        Due.place(Reads.BASES, "NGATTACAGN", 3, "0 0 8 2 0");
    }

    private static void whatThereIsNot() {
        String reads = Reads.read("GATTACAG", 40) + Reads.read("CCCCCCCCCC", 40);
        Run run = new Run(Reads.REFERENCE, reads, 0);
        Check.same("reads()", run.x().reads(), 2);
        int[] whats = {Integer.MIN_VALUE, -1, 5, 6, Integer.MAX_VALUE};
        for (int what : whats) {
            Check.same("place(0, " + what + ")", run.x().place(0, what), -1);
            Check.same("place(1, " + what + ")", run.x().place(1, what), -1);
        }
        int[] others = {Integer.MIN_VALUE, -1, 2, 7, 8, Integer.MAX_VALUE};
        for (int r : others) {
            for (int what = -1; what <= 5; what++) {
                Check.same("place(" + r + ", " + what + ")", run.x().place(r, what), -1);
            }
        }
        Check.same("a lost read", run.place(1), Due.LOST);
        run = new Run(Reads.REFERENCE, Reads.read("GATTACAG", 40).repeat(8), 0);
        Check.same("reads()", run.x().reads(), 8);
        Check.same("the last read", run.place(7), "0 0 8 0 0");
        Check.same("no read", run.place(8), Due.NO_READ);
    }
}
