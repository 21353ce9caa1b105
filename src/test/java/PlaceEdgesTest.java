/** The edges of promise 7 and of PLACES: a method for each sentence of the document that names one. */
final class PlaceEdgesTest {
    private PlaceEdgesTest() {
    }

    public static void main(String[] args) {
        theDistanceIsNotAboveK();
        theReferenceIsShorterThanTheRead();
        intervalsAtTheEndsOfTheReference();
        theShortestAndTheLongestReads();
        nIsLikeNoBase();
        aReadIsLostIfItHasNoOptima();
        optimaWithNoPositionInCommon();
        onlyTheLeastDistanceCounts();
        theLeastSThenTheLeastEThenForward();
        whatIs0To4();
        ofAnotherStateThereIsOnlyTheState();
        thereIsNoSuchRead();
        Check.end();
    }

    /** "The least distance that there is, if that is not above K": distances 0 to 4, of each kind of change. */
    private static void theDistanceIsNotAboveK() {
        String[] changed = {"ACAGGCTCCATGTTCG", "ACACGCTCCATGTTCG", "ACACGCACCATGTTCG", "ACACGCACCTTGTTCG",
            "ACACGCACCTTGATCG"};
        String[] leftOut = {"TCCATGTTCGAACTTG", "TCCATGTTGAACTTGC", "TCCATGTTAACTTGCA", "TCCATGTTACTTGCAG",
            "TCCATGTTCTTGCAGA"};
        String[] putIn = {"AGGCTCCATGTT", "AGGCTCACATGTT", "AGGCTCAACATGTT", "AGGCTCAAACATGTT", "AGGCTCAAAACATGTT"};
        String[] unknown = {"AGGCTCCATGTT", "AGGCTCNCATGTT", "AGGCTCNNCATGTT", "AGGCTCNNNCATGTT", "AGGCTCNNNNCATGTT"};
        for (int distance = 0; distance <= 4; distance++) {
            for (int k = 0; k <= 3; k++) {
                placed(changed[distance], k, 4, 20, distance);
                placed(leftOut[distance], k, 10, 26 + distance, distance);
                placed(putIn[distance], k, 6, 18, distance);
                placed(unknown[distance], k, 6, 18, distance);
            }
        }
    }

    /** On both strands. */
    private static void placed(String letters, int k, int s, int e, int distance) {
        String due = s + " " + e + " " + distance;
        Due.place(Reads.MOST_BASES, letters, k, distance <= k ? "0 " + due + " 0" : Due.LOST);
        Due.place(Reads.MOST_BASES, Reads.opposite(letters), k, distance <= k ? "0 " + due + " 1" : Due.LOST);
    }

    /** "An interval from s to e (s < e; positions s .. e - 1)" has at least one position, at most all of them. */
    private static void theReferenceIsShorterThanTheRead() {
        Due.place("GATTACAG", "GATTACAG", 0, "0 0 8 0 0");
        Due.place("GATTACAG", "GATTACAGC", 1, "0 0 8 1 0");
        Due.place("GATTACAG", "GATTACAGCCC", 3, "0 0 8 3 0");
        Due.place("GATTACAG", "CCCGATTACAG", 3, "0 0 8 3 0");
        Due.place("GATTACAG", "GATTACAGCCCC", 3, Due.LOST);
        Due.place("GATTACAG", "GATTACAGCCCCCCCC", 3, Due.LOST);
        Due.place("A", "ACCC", 3, "0 0 1 3 0");
        Due.place("A", "CCCA", 3, "0 0 1 3 0");
        Due.place("A", "GGGT", 3, "0 0 1 3 1");
        Due.place("A", "ACCC", 2, Due.LOST);
        Due.place("A", "ACCCC", 3, Due.LOST);
        Due.place("A", "CCCC", 3, Due.LOST);
        Due.place("A", "CCCCCCCCCCCCCCCC", 3, Due.LOST);
    }

    /** "The reference has the positions 0 .. L - 1." */
    private static void intervalsAtTheEndsOfTheReference() {
        for (int n = 4; n <= 16; n++) {
            String first = Reads.MOST_BASES.substring(0, n);
            String last = Reads.MOST_BASES.substring(48 - n);
            for (int k = n < 8 ? 0 : 3; k >= 0; k--) {
                placed(first, k, 0, n, 0);
                placed(last, k, 48 - n, 48, 0);
            }
        }
        // The longest intervals: 16 letters and three positions left out.
        placed("GATTACAGGCATGTTC", 3, 0, 19, 3);
        placed("AGCCGTATATCTAAGC", 3, 29, 48, 3);
        Due.place("GATTACAGGCTCCATGTTC", "GATTACAGGCATGTTC", 3, "0 0 19 3 0");
        Due.place("GATTACAGGCTCCATGTTC", "GATTACAGGCATGTTC", 2, Due.LOST);
    }

    /** "4 to 16 letters." */
    private static void theShortestAndTheLongestReads() {
        Due.place("GATT", "GATT", 0, "0 0 4 0 0");
        Due.place("GATT", "AATC", 0, "0 0 4 0 1");
        Due.place("CGATTC", "GATT", 3, "0 1 5 0 0");
        Due.place("GATTACAGGCTCCATG", "GATTACAGGCTCCATG", 3, "0 0 16 0 0");
        Due.place("CGATTACAGGCTCCATGC", Reads.opposite("GATTACAGGCTCCATG"), 3, "0 1 17 0 1");
    }

    /** "N is like no BASE." */
    private static void nIsLikeNoBase() {
        for (String base : new String[] {"A", "C", "G", "T"}) {
            Due.place(base, "NNNN", 3, Due.LOST);
            Due.place("GATTACA" + base + "GGCTC", "ATTACANGGCTC", 1, "0 1 13 1 0");
            Due.place("GATTACA" + base + "GGCTC", "ATTACANGGCTC", 0, Due.LOST);
        }
        Due.place("GATTACAG", "NATTACAN", 2, "0 0 7 2 0");
        Due.place("GATTACAG", "NATTACAN", 1, Due.LOST);
    }

    /** "It is LOST if it has none." */
    private static void aReadIsLostIfItHasNoOptima() {
        for (int k = 0; k <= 3; k++) {
            Due.place("GATTACAGGATTACAG", "CCCCCCCC", k, Due.LOST);
            Due.place("AAAAAAAA", "CCCC", k, Due.LOST);
        }
        Due.place("AAAAAAAA", "CCCA", 3, Due.DOUBTFUL);
        Due.place("AAAAAAAA", "CCCA", 2, Due.LOST);
    }

    /** "DOUBTFUL if two of its OPTIMA have no position in common": side by side, or with one in common. */
    private static void optimaWithNoPositionInCommon() {
        Due.place("CAACAAC", "CAAC", 0, "0 0 4 0 0");
        Due.place("CAACCAAC", "CAAC", 0, Due.DOUBTFUL);
        Due.place("CAACTCAAC", "CAAC", 0, Due.DOUBTFUL);
        // Neighbours have positions in common, but of three or more the first and the last need not.
        Due.place("CAAAAAAAC", "AAAA", 0, "0 1 5 0 0");
        Due.place("CAAAAAAAAC", "AAAA", 0, Due.DOUBTFUL);
        Due.place("CAACAACAAC", "CAAC", 0, Due.DOUBTFUL);
        // The longer of two intervals from 0 on reaches into the last one, the shorter does not.
        Due.place("GATTAGATTA", "GATTAN", 1, Due.DOUBTFUL);
        // The same holds of intervals in two directions.
        Due.place("AAGCTT", "AAGC", 0, "0 0 4 0 0");
        Due.place("AAGCGCTT", "AAGC", 0, Due.DOUBTFUL);
        Due.place("AAGCGCTT", "GCTT", 0, Due.DOUBTFUL);
        // One interval in both directions is no doubt.
        Due.place("AATT", "AATT", 0, "0 0 4 0 0");
        Due.place("AATTCAATT", "AATT", 0, Due.DOUBTFUL);
    }

    /** "All intervals of the least distance that there is": others make no doubt. */
    private static void onlyTheLeastDistanceCounts() {
        for (int k = 0; k <= 3; k++) {
            Due.place("GGAAGGAT", "GGAA", k, "0 0 4 0 0");
            Due.place("GGATGGAA", "GGAA", k, "0 4 8 0 0");
            // The better one is found last, and backward.
            Due.place("GGATTTCC", "GGAA", k, "0 4 8 0 1");
        }
    }

    /** "At the optimum with the least s, of these the least e, of these FORWARD before BACKWARD." */
    private static void theLeastSThenTheLeastEThenForward() {
        // Least s: of two forward ones, and of one in each direction.
        Due.place("CAACAAC", "CAAC", 1, "0 0 4 0 0");
        Due.place("AAGCTT", "AAGC", 3, "0 0 4 0 0");
        Due.place("AAGCTT", "GCTT", 3, "0 0 4 0 1");
        // Least s goes before least e: 0 .. 8 and 1 .. 8 are optima.
        Due.place("TACGTTAC", "GACGTTAC", 1, "0 0 8 1 0");
        // Least e: 0 .. 6 and 0 .. 7 are optima.
        Due.place("ACGTTACCA", "ACGTTAG", 1, "0 0 6 1 0");
        // Least e goes before FORWARD: backward 0 .. 5, forward 0 .. 6.
        Due.place("GGTCTAGA", "AGTCCA", 2, "0 0 5 2 1");
        // FORWARD before BACKWARD.
        Due.place("CGAATTCG", "GAATTC", 3, "0 1 7 0 0");
    }

    /** "NONE for another what." */
    private static void whatIs0To4() {
        Run run = new Run(Reads.REFERENCE, Reads.read(Reads.opposite("ACAGGATCC"), 40), 1);
        int[] due = {0, 4, 13, 1, 1};
        for (int what = 0; what < due.length; what++) {
            Check.same("place(0, " + what + ")", run.x().place(0, what), due[what]);
        }
        int[] others = {Integer.MIN_VALUE, -2, -1, 5, 6, 256, Integer.MAX_VALUE};
        for (int what : others) {
            Check.same("place(0, " + what + ")", run.x().place(0, what), -1);
        }
    }

    /** "0 its state (of any read that there is)"; "NONE for another state". */
    private static void ofAnotherStateThereIsOnlyTheState() {
        String reads = Reads.read("GGAA", 40) + Reads.read("CCCCCCCC", 40) + Reads.read("AAGG", 40);
        Run run = new Run(">r\nGGAAGGAA\n", reads, 0);
        Check.same("a doubtful read", run.place(0), Due.DOUBTFUL);
        Check.same("a lost read", run.place(1), Due.LOST);
        Check.same("a placed read", run.place(2), "0 2 6 0 0");
        // Reads that were placed before are so no longer.
        String[] before = {">r\nGGAACCCCCCCC\n", reads};
        run = new Run(before, 0, ">r\nGGAAGGAA\n", reads, 0);
        Check.same("a doubtful read", run.place(0), Due.DOUBTFUL);
        Check.same("a lost read", run.place(1), Due.LOST);
        Check.same("a placed read", run.place(2), "0 2 6 0 0");
    }

    /** "NONE for no such read." */
    private static void thereIsNoSuchRead() {
        int[] others = {Integer.MIN_VALUE, -2, -1, 256, Integer.MAX_VALUE};
        for (int n = 0; n <= 8; n++) {
            Run run = new Run(Reads.REFERENCE, Reads.some(n, "GATTACAG", 40), 0);
            for (int r = 0; r < n; r++) {
                Check.same("read " + r + " of " + n, run.place(r), "0 0 8 0 0");
            }
            for (int r = n; r <= 9; r++) {
                Check.same("read " + r + " of " + n, run.place(r), Due.NO_READ);
            }
            for (int r : others) {
                Check.same("read " + r + " of " + n, run.place(r), Due.NO_READ);
            }
        }
    }
}
