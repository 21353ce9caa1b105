/** The edges of promises 11 and 12 and of THE TABLE: a method for each sentence that names one. */
final class TableEdgesTest {
    private static final String MOST_BASES = ">r\n" + Reads.MOST_BASES + "\n";
    private static final String FOUR_OF_FOUR = "\t130\t.\t.\tGT:DP:AD:PL\t1/1:4:0,4:130,2,0";

    private TableEdgesTest() {
    }

    public static void main(String[] args) {
        nothingIsThereWhenNothingWasCalled();
        theTwoFirstLinesAreThereAtLeast();
        lettersGoFrom0On();
        aTableReplacesTheOneBefore();
        theNameHas1To8Characters();
        positionsAreCountedFrom1();
        linesGoByPositionBasesBeforeLinks();
        aReportedSiteHasNoPartInTheNextOne();
        qualitiesAreDecimal();
        excessesAreAtMost255();
        theGreatestLossIsWritten();
        theLongestLine();
        Check.end();
    }

    /** Reads with another base at position 8, of these qualities. */
    private static String othersOf(int... qualities) {
        StringBuilder reads = new StringBuilder();
        for (int quality : qualities) {
            reads.append(Reads.read("TTACAGACTCCA", quality));
        }
        return reads.toString();
    }

    private static void at8(String reads, int qual, String sample) {
        Due.lines(reads, 1, "ref\t9\t.\tG\tA\t" + qual + "\t.\t.\tGT:DP:AD:PL\t" + sample);
    }

    /** "0 when nothing was called"; "0 when there is none": also behind a refused call. */
    private static void nothingIsThereWhenNothingWasCalled() {
        Run[] runs = {new Run("", "", -1), new Run("", "", 0), new Run(Reads.REFERENCE, "x", 0),
            new Run(Reads.REFERENCE, "", 4)};
        for (Run run : runs) {
            Check.same("length()", run.x().length(), 0);
            for (int k = -1; k <= 1; k++) {
                Check.same("letter(" + k + ")", run.x().letter(k), 0);
            }
        }
    }

    /** "Its two first lines at least." */
    private static void theTwoFirstLinesAreThereAtLeast() {
        for (int k = 0; k <= 3; k++) {
            Due.lines("", k);
            Due.lines(Reads.read("GATTACAGG", 93), k);
            Due.lines(Reads.read("CCCCCCCCC", 93), k);
            Due.linesOn(">r\nA\n", "", k);
        }
        Run run = new Run(Reads.REFERENCE, "", 0);
        Check.same("length()", run.x().length(), 69);
        Check.same("letter(0)", run.x().letter(0), '#');
        Check.same("letter(19)", run.x().letter(19), '3');
        Check.same("letter(20)", run.x().letter(20), 10);
        Check.same("letter(27)", run.x().letter(27), 9);
        Check.same("letter(67)", run.x().letter(67), 'S');
        Check.same("letter(68)", run.x().letter(68), 10);
        Check.same("letter(69)", run.x().letter(69), 0);
    }

    /** "The k-th character (from 0 on) of the table; 0 when there is none." */
    private static void lettersGoFrom0On() {
        Run run = new Run(Reads.REFERENCE, othersOf(24), 1);
        String line = "ref\t9\t.\tG\tA\t1\t.\t.\tGT:DP:AD:PL\t0/1:1:0,1:1,0,7\n";
        int length = 69 + line.length();
        Check.same("length()", run.x().length(), length);
        for (int k = 69; k < length; k++) {
            Check.same("letter(" + k + ")", run.x().letter(k), line.charAt(k - 69));
        }
        int[] others = {Integer.MIN_VALUE, -2, -1, length, length + 1, 2000, 3000, 65536, Integer.MAX_VALUE};
        for (int k : others) {
            Check.same("letter(" + k + ")", run.x().letter(k), 0);
        }
    }

    /** "Shows the latest call": nothing of a longer table is left behind a shorter one. */
    private static void aTableReplacesTheOneBefore() {
        String[] before = {Reads.REFERENCE, othersOf(93, 93, 93, 93)};
        Run run = new Run(before, 1, Reads.REFERENCE, "", 1);
        Check.same("table", run.table(), Reads.FIRST_LINES);
        for (int k = 69; k < 140; k++) {
            Check.same("letter(" + k + ")", run.x().letter(k), 0);
        }
        run = new Run(before, 1, Reads.REFERENCE, othersOf(24), 1);
        Check.same("table", run.table(),
            Reads.FIRST_LINES + "ref\t9\t.\tG\tA\t1\t.\t.\tGT:DP:AD:PL\t0/1:1:0,1:1,0,7\n");
    }

    /** "A NAME is 1 to 8 characters 33 .. 126." */
    private static void theNameHas1To8Characters() {
        String[] names = {"!", "~", ">", "ab", "1234567", "!~!~!~!~", "abcdefgh"};
        for (String name : names) {
            Due.linesOn(">" + name + "\n" + Reads.BASES + "\n", othersOf(24), 1,
                name + "\t9\t.\tG\tA\t1\t.\t.\tGT:DP:AD:PL\t0/1:1:0,1:1,0,7");
        }
        // A longer name before leaves nothing.
        String[] before = {">abcdefgh\n" + Reads.BASES + "\n", othersOf(24)};
        Run run = new Run(before, 1, ">i\n" + Reads.BASES + "\n", othersOf(24), 1);
        Check.same("table", run.table(),
            Reads.FIRST_LINES + "i\t9\t.\tG\tA\t1\t.\t.\tGT:DP:AD:PL\t0/1:1:0,1:1,0,7\n");
    }

    /**
     * "The reference's NAME; p + 1": at the first position and at the last where something else can be
     * seen. A last letter that differs is put in, as the interval with the least e is taken.
     */
    private static void positionsAreCountedFrom1() {
        Due.linesOn(MOST_BASES, Reads.some(4, "AATTACAGG", 40), 1, "r\t1\t.\tG\tA" + FOUR_OF_FOUR);
        Due.linesOn(MOST_BASES, Reads.some(4, "GCATTACAGG", 40), 1, "r\t1\t.\tG\tGC" + FOUR_OF_FOUR);
        Due.linesOn(MOST_BASES, Reads.some(4, "TTACAGACTCCA", 40), 1, "r\t9\t.\tG\tA" + FOUR_OF_FOUR);
        Due.linesOn(MOST_BASES, Reads.some(4, "TTACAGGATCCA", 40), 1, "r\t10\t.\tC\tA" + FOUR_OF_FOUR);
        Due.linesOn(MOST_BASES, Reads.some(4, "GGTCTAAAC", 40), 1, "r\t47\t.\tG\tA" + FOUR_OF_FOUR);
        Due.linesOn(MOST_BASES, Reads.some(4, "GGTCTAAGTC", 40), 1, "r\t47\t.\tG\tGT" + FOUR_OF_FOUR);
        Due.linesOn(MOST_BASES, Reads.some(4, "GGTCTAAGT", 40), 1);
        // The same with the first letter of a read backward.
        Due.linesOn(MOST_BASES, Reads.some(4, Reads.opposite("GGTCTAAGTC"), 40), 1, "r\t47\t.\tG\tGT" + FOUR_OF_FOUR);
    }

    /** "A line for each reported site, by p, bases before links." */
    private static void linesGoByPositionBasesBeforeLinks() {
        String reads = Reads.some(2, "GGCTCCCTGTTC", 40) + Reads.some(3, "GGCTCCTGTTCG", 40)
            + Reads.some(3, "GGCTCGATGTTC", 40);
        Due.lines(reads, 1,
            "ref\t13\t.\tC\tG\t76\t.\t.\tGT:DP:AD:PL\t0/1:8:5,3:76,0,186",
            "ref\t13\t.\tCA\tC\t76\t.\t.\tGT:DP:AD:PL\t0/1:8:5,3:76,0,186",
            "ref\t14\t.\tA\tC\t45\t.\t.\tGT:DP:AD:PL\t0/1:5:3,2:45,0,115");
    }

    /** "A site is REPORTED when its choice is not 0/0": a tie of 26 behind a site that is reported with 26. */
    private static void aReportedSiteHasNoPartInTheNextOne() {
        String other = Reads.read("GGCTCGATGTTC", 40);
        String base = "ref\t13\t.\tC\tG\t14\t.\t.\tGT:DP:AD:PL\t0/1:2:1,1:14,0,";
        Due.lines(other + Reads.read("GGCTCCTGTTCG", 26), 1, base + "30");
        Due.lines(other + Reads.read("GGCTCCTGTTCG", 27), 1, base + "31",
            "ref\t13\t.\tCA\tC\t1\t.\t.\tGT:DP:AD:PL\t0/1:2:1,1:1,0,44");
    }

    /** "Numbers are decimal"; 714 is the greatest QUAL that 8 reads can give. */
    private static void qualitiesAreDecimal() {
        at8(othersOf(24), 1, "0/1:1:0,1:1,0,7");
        at8(othersOf(32), 9, "0/1:1:0,1:9,0,7");
        at8(othersOf(33), 10, "0/1:1:0,1:10,0,7");
        at8(othersOf(62, 63), 99, "0/1:2:0,2:99,0,4");
        at8(othersOf(63, 63), 100, "0/1:2:0,2:100,0,4");
        at8(othersOf(93, 93, 93, 93, 93, 93, 93, 93), 714, "1/1:8:0,8:255,14,0");
    }

    /** "For each pair in order its penalty less the least one, at most 255"; QUAL goes on. */
    private static void excessesAreAtMost255() {
        at8(othersOf(71, 71, 71, 71), 254, "1/1:4:0,4:254,2,0");
        at8(othersOf(71, 71, 71, 72), 255, "1/1:4:0,4:255,2,0");
        at8(othersOf(71, 71, 72, 72), 256, "1/1:4:0,4:255,2,0");
        String others = othersOf(93, 93, 93, 93);
        String same = Reads.some(3, "TTACAGGCTCCA", 67);
        at8(others + same + Reads.read("TTACAGGCTCCA", 67), 328, "0/1:8:4,4:255,0,254");
        at8(others + same + Reads.read("TTACAGGCTCCA", 68), 328, "0/1:8:4,4:255,0,255");
        at8(others + same + Reads.read("TTACAGGCTCCA", 69), 328, "0/1:8:4,4:255,0,255");
    }

    /** "REF is the bases of p .. p + n; ALT that of p, for a loss of m the bases of p + m + 1 .. p + n." */
    private static void theGreatestLossIsWritten() {
        Due.lines(Reads.some(4, "GGCTCCATGTTC", 40), 3);
        Due.lines(Reads.some(4, "GGCTCCTGTTCG", 40), 3, "ref\t13\t.\tCA\tC" + FOUR_OF_FOUR);
        Due.lines(Reads.some(4, "GGCTCCGTTCGA", 40), 3, "ref\t13\t.\tCAT\tC" + FOUR_OF_FOUR);
        Due.lines(Reads.some(4, "GGCTCCTTCGAACT", 40), 3, "ref\t13\t.\tCATG\tC" + FOUR_OF_FOUR);
        // Behind a loss at least one letter more is matched than it has, or these would be put in instead.
        Due.linesOn(">r\nGATTACAGGCAT\n", Reads.some(4, "GATTACAGGAT", 40), 1, "r\t9\t.\tGC\tG" + FOUR_OF_FOUR);
        Due.linesOn(">r\nGATTACAGGCAT\n", Reads.some(4, "GATTACAGGCT", 40), 1);
    }

    /** A name of 8, a loss of 3 beside a gain of 3, and as many digits as there can be. */
    private static void theLongestLine() {
        Due.linesOn(">abcdefgh\n" + Reads.BASES + "\n",
            Reads.some(4, "GCTCCTTTATGTT", 93) + Reads.some(4, "GGCTCCTTCGAACT", 93), 3,
            "abcdefgh\t13\t.\tCATG\tC,CTTTATG\t680\t.\t.\tGT:DP:AD:PL\t1/2:8:0,4,4:255,255,255,255,0,255");
    }
}
