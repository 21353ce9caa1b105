/** Promises 5, 11 and 12: how many sites are reported, length and letter. */
final class TableTest {
    private static final String WITH_A = "TTACAGACTCCA";
    private static final String WITH_C = "TTACAGCCTCCA";
    private static final String WITH_T = "TTACAGTCTCCA";
    private static final String PLAIN = "TTACAGGCTCCA";
    private static final String LOSS_OF_ONE = "GGCTCCTGTTCG";
    private static final String LOSS_OF_TWO = "GGCTCCGTTCGA";
    private static final String GAIN_OF_TWO = "GCTCCGTATGTT";

    private TableTest() {
    }

    public static void main(String[] args) {
        noDifference();
        oneOtherBase();
        tiesGoToTheFirstPair();
        severalOtherBases();
        greatPenalties();
        lossesAndGains();
        theOrderOfLinks();
        theLesserQualityOfALink();
        severalLines();
        theEndsOfTheTable();
        Check.end();
    }

    private static void noDifference() {
        Due.lines("", 0);
        Due.lines(Reads.some(3, PLAIN, 40), 3);
        Due.lines(Reads.some(4, WITH_A, 40), 0);
    }

    private static void oneOtherBase() {
        Due.lines(Reads.some(4, WITH_A, 40), 1, "ref\t9\t.\tG\tA\t130\t.\t.\tGT:DP:AD:PL\t1/1:4:0,4:130,2,0");
        Due.lines(Reads.some(4, Reads.opposite(WITH_A), 40), 1,
            "ref\t9\t.\tG\tA\t130\t.\t.\tGT:DP:AD:PL\t1/1:4:0,4:130,2,0");
        Due.lines(Reads.some(4, "AATTACAGG", 40), 1, "ref\t1\t.\tG\tA\t130\t.\t.\tGT:DP:AD:PL\t1/1:4:0,4:130,2,0");
        Due.lines(Reads.some(2, PLAIN, 30) + Reads.some(2, WITH_A, 40), 1,
            "ref\t9\t.\tG\tA\t48\t.\t.\tGT:DP:AD:PL\t0/1:4:2,2:48,0,58");
        Due.lines(Reads.some(3, WITH_A, 40), 1, "ref\t9\t.\tG\tA\t91\t.\t.\tGT:DP:AD:PL\t0/1:3:0,3:91,0,1");
    }

    private static void tiesGoToTheFirstPair() {
        // 0/0 has 23 and so has 0/1.
        Due.lines(Reads.some(1, WITH_A, 23), 1);
        Due.lines(Reads.some(1, WITH_A, 24), 1, "ref\t9\t.\tG\tA\t1\t.\t.\tGT:DP:AD:PL\t0/1:1:0,1:1,0,7");
        // 0/1 has 32 and so has 1/1.
        Due.lines(Reads.some(3, WITH_A, 40) + Reads.some(1, PLAIN, 2), 1,
            "ref\t9\t.\tG\tA\t88\t.\t.\tGT:DP:AD:PL\t0/1:4:1,3:88,0,0");
        // 0/1 and 0/2 have 66 both, and no other pair has less.
        Due.lines(Reads.some(1, WITH_A, 40) + Reads.some(1, WITH_C, 40) + Reads.some(1, PLAIN, 40), 1,
            "ref\t9\t.\tG\tA,C\t14\t.\t.\tGT:DP:AD:PL\t0/1:3:1,1,1:14,0,44,0,20,44");
    }

    private static void severalOtherBases() {
        // Equally often seen ones go by A C G T; the third one is no allele, but it is seen.
        Due.lines(Reads.some(1, WITH_T, 40) + Reads.some(1, WITH_C, 40) + Reads.some(1, WITH_A, 40), 1,
            "ref\t9\t.\tG\tA,C\t34\t.\t.\tGT:DP:AD:PL\t1/2:3:0,1,1:34,17,24,17,0,24");
        // The one more often seen goes first, whatever its quality.
        Due.lines(Reads.some(2, WITH_T, 20) + Reads.some(1, WITH_A, 93), 1,
            "ref\t9\t.\tG\tT,A\t84\t.\t.\tGT:DP:AD:PL\t1/2:3:0,2,1:84,70,74,14,0,21");
        // The choice may be 2/2, when the letters of allele 1 are worth little.
        Due.lines(Reads.some(2, WITH_A, 0) + Reads.some(2, WITH_C, 93), 1,
            "ref\t9\t.\tG\tA,C\t160\t.\t.\tGT:DP:AD:PL\t0/2:4:0,2,2:160,186,190,0,26,4");
        Due.lines(Reads.some(4, WITH_A, 0) + Reads.some(4, WITH_C, 93), 1,
            "ref\t9\t.\tG\tA,C\t342\t.\t.\tGT:DP:AD:PL\t2/2:8:0,4,4:255,255,255,2,34,0");
    }

    private static void greatPenalties() {
        Due.lines(Reads.some(8, WITH_A, 93), 1, "ref\t9\t.\tG\tA\t714\t.\t.\tGT:DP:AD:PL\t1/1:8:0,8:255,14,0");
    }

    private static void lossesAndGains() {
        Due.lines(Reads.some(4, LOSS_OF_TWO, 40), 2, "ref\t13\t.\tCAT\tC\t130\t.\t.\tGT:DP:AD:PL\t1/1:4:0,4:130,2,0");
        Due.lines(Reads.some(4, GAIN_OF_TWO, 40), 2, "ref\t13\t.\tC\tCGT\t130\t.\t.\tGT:DP:AD:PL\t1/1:4:0,4:130,2,0");
        Due.lines(Reads.some(4, Reads.opposite(GAIN_OF_TWO), 40), 2,
            "ref\t13\t.\tC\tCGT\t130\t.\t.\tGT:DP:AD:PL\t1/1:4:0,4:130,2,0");
        Due.lines(Reads.some(4, "GGCTCCTTCGAACT", 40), 3,
            "ref\t13\t.\tCATG\tC\t130\t.\t.\tGT:DP:AD:PL\t1/1:4:0,4:130,2,0");
        Due.lines(Reads.some(4, "CATGTATCGAACT", 40), 1,
            "ref\t17\t.\tT\tTA\t130\t.\t.\tGT:DP:AD:PL\t1/1:4:0,4:130,2,0");
        Due.lines(Reads.some(4, "GCTCCAAAATGTT", 40), 3,
            "ref\t13\t.\tC\tCAAA\t130\t.\t.\tGT:DP:AD:PL\t1/1:4:0,4:130,2,0");
        Due.lines(Reads.some(4, "GCTCCTTTATGTT", 40), 3,
            "ref\t13\t.\tC\tCTTT\t130\t.\t.\tGT:DP:AD:PL\t1/1:4:0,4:130,2,0");
        Due.lines(Reads.some(2, LOSS_OF_TWO, 40) + Reads.some(2, GAIN_OF_TWO, 40), 2,
            "ref\t13\t.\tCAT\tC,CGTAT\t108\t.\t.\tGT:DP:AD:PL\t1/2:4:0,2,2:108,54,58,54,0,58");
        Due.lines(Reads.some(2, LOSS_OF_TWO, 40) + Reads.some(2, LOSS_OF_ONE, 40), 2,
            "ref\t13\t.\tCAT\tCT,C\t108\t.\t.\tGT:DP:AD:PL\t1/2:4:0,2,2:108,54,58,54,0,58");
    }

    private static void theOrderOfLinks() {
        String shortGain = "GCTCCTATGTT";
        String gainOfGA = "GCTCCGAATGTT";
        // Losses before gains and shorter ones first, when equally often seen.
        Due.lines(Reads.some(1, GAIN_OF_TWO, 40) + Reads.some(1, shortGain, 40) + Reads.some(1, LOSS_OF_TWO, 40), 2,
            "ref\t13\t.\tCAT\tC,CTAT\t34\t.\t.\tGT:DP:AD:PL\t1/2:3:0,1,1:34,17,24,17,0,24");
        Due.lines(Reads.some(1, GAIN_OF_TWO, 40) + Reads.some(1, shortGain, 40), 2,
            "ref\t13\t.\tC\tCT,CGT\t34\t.\t.\tGT:DP:AD:PL\t1/2:2:0,1,1:34,17,24,17,0,24");
        // Gains of one length by the alphabet.
        Due.lines(Reads.some(1, GAIN_OF_TWO, 40) + Reads.some(1, gainOfGA, 40), 2,
            "ref\t13\t.\tC\tCGA,CGT\t34\t.\t.\tGT:DP:AD:PL\t1/2:2:0,1,1:34,17,24,17,0,24");
        // How often they are seen goes before all that.
        Due.lines(Reads.some(2, GAIN_OF_TWO, 40) + Reads.some(1, LOSS_OF_ONE, 40), 2,
            "ref\t13\t.\tCA\tCGTA,C\t71\t.\t.\tGT:DP:AD:PL\t1/2:3:0,2,1:71,17,21,54,0,61");
    }

    private static void theLesserQualityOfALink() {
        // The letters on both sides of the loss have 40 and 25, so the link has 25.
        String qualities = "IIIIII:IIIII";
        Due.lines(Reads.read(LOSS_OF_TWO, qualities), 2,
            "ref\t13\t.\tCAT\tC\t2\t.\t.\tGT:DP:AD:PL\t0/1:1:0,1:2,0,7");
        Due.lines(Reads.read(Reads.opposite(LOSS_OF_TWO), "IIIII:IIIIII"), 2,
            "ref\t13\t.\tCAT\tC\t2\t.\t.\tGT:DP:AD:PL\t0/1:1:0,1:2,0,7");
        // The letter put in has no part in it.
        Due.lines(Reads.read("GCTCCTATGTT", "IIIII!IIIII"), 2,
            "ref\t13\t.\tC\tCT\t17\t.\t.\tGT:DP:AD:PL\t0/1:1:0,1:17,0,7");
    }

    private static void severalLines() {
        // From the back, the letter that differs goes to the last position that it can stand for.
        Due.lines(Reads.some(4, "GGCTCGTGTTCG", 40), 2,
            "ref\t11\t.\tTC\tT\t130\t.\t.\tGT:DP:AD:PL\t1/1:4:0,4:130,2,0",
            "ref\t14\t.\tA\tG\t130\t.\t.\tGT:DP:AD:PL\t1/1:4:0,4:130,2,0");
        // Bases before links.
        Due.lines(Reads.some(4, LOSS_OF_ONE, 40) + Reads.some(4, "GGCTCGATGTTC", 40), 2,
            "ref\t13\t.\tC\tG\t116\t.\t.\tGT:DP:AD:PL\t0/1:8:4,4:116,0,146",
            "ref\t13\t.\tCA\tC\t116\t.\t.\tGT:DP:AD:PL\t0/1:8:4,4:116,0,146");
    }

    private static void theEndsOfTheTable() {
        Run run = new Run(Reads.REFERENCE, Reads.some(4, WITH_A, 40), 1);
        int length = run.x().length();
        Check.same("the last letter", run.x().letter(length - 1), 10);
        int[] others = {Integer.MIN_VALUE, -1, length, length + 1, 100000, Integer.MAX_VALUE};
        for (int k : others) {
            Check.same("letter(" + k + ")", run.x().letter(k), 0);
        }
        // A shorter table behind a longer one.
        String[] before = {Reads.REFERENCE, Reads.some(4, WITH_A, 40)};
        run = new Run(before, 1, Reads.REFERENCE, Reads.some(4, PLAIN, 40), 1);
        Check.same("length()", run.x().length(), 69);
        Check.same("letter(69)", run.x().letter(69), 0);
        Check.same("table", run.table(), Reads.FIRST_LINES);
    }
}
