/** The edges of SITES, the PENALTY and the CHOICE: a method for each sentence that names one. */
final class ChoiceEdgesTest {
    private static final String LOSS_OF_1 = one("GGCTCCTGTTCG");
    private static final String LOSS_OF_2 = one("GGCTCCGTTCGA");
    private static final String LOSS_OF_3 = one("GGCTCCTTCGAACT");
    private static final String GAIN_OF_T = one("GCTCCTATGTT");
    private static final String GAIN_OF_GT = one("GCTCCGTATGTT");
    private static final String GAIN_OF_TTT = one("GCTCCTTTATGTT");
    /** The end of a line whose two other alleles are seen once each, with the quality 40. */
    private static final String ONCE_EACH = "\t34\t.\t.\tGT:DP:AD:PL\t1/2:2:0,1,1:34,17,24,17,0,24";
    private static final String TWICE_AND_ONCE = "\t71\t.\t.\tGT:DP:AD:PL\t1/2:3:0,2,1:71,17,21,54,0,61";

    private ChoiceEdgesTest() {
    }

    public static void main(String[] args) {
        theChoiceIsTheFirstOfEqualPenalties();
        theQualityIsTheCharacterLess33();
        thePenaltyOfWhatIsSeen();
        upToTwoOthersAreAlleles();
        theMostOftenSeenGoFirst();
        equallyFrequentBasesGoByACGT();
        lossesGoBeforeGains();
        shorterOnesGoFirst();
        gainsOfOneLengthGoByTheAlphabet();
        theThirdLinkIsNoAllele();
        Check.end();
    }

    private static String one(String letters) {
        return Reads.read(letters, 40);
    }

    /**
     * Reads that show at position 8, where the reference has G, a base with a quality each ("A24 G3"),
     * and what is due in the columns ALT, QUAL and S.
     */
    private static void choice(String things, String alt, int qual, String sample) {
        String line = "ref\t9\t.\tG\t" + alt + "\t" + qual + "\t.\t.\tGT:DP:AD:PL\t" + sample;
        Due.lines(readsOf(things), 1, line);
    }

    private static void notReported(String things) {
        Due.lines(readsOf(things), 1);
    }

    private static String readsOf(String things) {
        StringBuilder reads = new StringBuilder();
        for (String thing : things.split(" ")) {
            String letters = "TTACAG" + thing.charAt(0) + "CTCCA";
            reads.append(Reads.read(letters, Integer.parseInt(thing.substring(1))));
        }
        return reads.toString();
    }

    /** "The CHOICE is the first one with the least penalty": each two pairs that may both be least. */
    private static void theChoiceIsTheFirstOfEqualPenalties() {
        // 0/0 and 0/1 have 23.
        notReported("A23");
        choice("A24", "A", 1, "0/1:1:0,1:1,0,7");
        // 0/0 and 1/1 have 30.
        notReported("A7 A7 A8 A8");
        choice("A7 A8 A8 A8", "A", 1, "1/1:4:0,4:1,2,0");
        // 0/0 and 0/2 have 23.
        notReported("A0 C23");
        choice("A0 C24", "A,C", 1, "0/2:2:0,1,1:1,24,31,0,23,7");
        // 0/0 and 1/2 have 46.
        notReported("G0 A21 C25");
        choice("G0 A22 C25", "A,C", 1, "1/2:3:1,1,1:1,5,9,2,0,6");
        // 0/0 and 2/2 have 30.
        notReported("G0 G0 G0 A0 C30");
        choice("G0 G0 G0 A0 C31", "A,C", 1, "2/2:5:3,1,1:1,33,31,2,16,0");
        // 0/1 and 1/1 have 32.
        choice("G2 A11 A11 A11", "A", 1, "0/1:4:1,3:1,0,0");
        choice("G1 A11 A11 A11", "A", 2, "1/1:4:1,3:2,1,0");
        // 0/1 and 0/2 have 56.
        choice("G11 A30 C30", "A,C", 4, "0/1:3:1,1,1:4,0,15,0,1,15");
        choice("G11 A30 C31", "A,C", 5, "0/2:3:1,1,1:5,1,16,0,1,15");
        // 0/1 and 1/2 have 46, or 0/2 and 1/2.
        choice("A24 C23", "A,C", 1, "0/1:2:0,1,1:1,0,7,1,0,8");
        choice("A23 C24", "A,C", 1, "0/2:2:0,1,1:1,1,8,0,0,7");
        choice("A24 C24", "A,C", 2, "1/2:2:0,1,1:2,1,8,1,0,8");
        // 1/1 and 0/2 have 64.
        choice("G4 A7 A7 A7 A7 A7 C15 C15", "A,C", 1, "1/1:8:1,5,2:1,4,0,0,1,5");
        choice("G5 A7 A7 A7 A7 A7 C15 C15", "A,C", 1, "0/2:8:1,5,2:1,4,1,0,2,6");
        // 1/1 and 1/2 have 55.
        choice("A9 A9 A9 A9 C25", "A,C", 6, "1/1:5:0,4,1:6,2,0,4,0,11");
        choice("A9 A9 A9 A9 C26", "A,C", 7, "1/2:5:0,4,1:7,3,1,4,0,11");
        // 1/1 and 2/2 have 62.
        choice("A8 A8 A8 A8 C8 C8 C8 C8", "A,C", 2, "1/1:8:0,4,4:2,2,0,2,2,0");
        choice("A8 A8 A8 A8 C8 C8 C8 C9", "A,C", 3, "2/2:8:0,4,4:3,3,1,2,2,0");
        // 0/2 and 2/2 have 32.
        choice("G1 G1 A0 A0 C17 C17", "A,C", 2, "0/2:6:2,2,2:2,34,34,0,22,0");
        choice("G0 G1 A0 A0 C17 C17", "A,C", 3, "2/2:6:2,2,2:3,35,34,1,22,0");
        // 1/2 and 2/2 have 46.
        choice("G0 G0 G0 A16 C33", "A,C", 3, "1/2:5:3,1,1:3,19,17,2,0,0");
        choice("G0 G0 G0 A15 C33", "A,C", 3, "2/2:5:3,1,1:3,20,18,2,1,0");
    }

    /** "The QUALITY of a letter is that character less 33": 0 for 33, 93 for 126. */
    private static void theQualityIsTheCharacterLess33() {
        notReported("A0");
        choice("A92", "A", 69, "0/1:1:0,1:69,0,7");
        choice("A93", "A", 70, "0/1:1:0,1:70,0,7");
        // The letter's own quality counts, not its neighbours', and it is turned with the letter.
        String line = "ref\t9\t.\tG\tA\t1\t.\t.\tGT:DP:AD:PL\t0/1:1:0,1:1,0,7";
        Due.lines(Reads.read("TTACAGACTCCA", "~~~~~~9~~~~~"), 1, line);
        Due.lines(Reads.read("TTACAGACTCCA", "!!!!!!9!!!!!"), 1, line);
        Due.lines(Reads.read("TTACAGACTCCA", "~~~~~~8~~~~~"), 1);
        Due.lines(Reads.read(Reads.opposite("TTACAGACTCCA"), "~~~~~9~~~~~~"), 1, line);
        Due.lines(Reads.read(Reads.opposite("TTACAGACTCCA"), "~~~~~8~~~~~~"), 1);
    }

    /** "0 if both are it, 3 if only one is, its quality otherwise", also if that is less than 3 or 0. */
    private static void thePenaltyOfWhatIsSeen() {
        // 63, 35 and 33; then 63, 35 and 40.
        choice("G0 G3 A0 A3 A60", "A", 30, "1/1:5:2,3:30,2,0");
        choice("G5 G5 A0 A3 A60", "A", 28, "0/1:5:2,3:28,0,5");
        // 372, 212, 216, 212, 52 and 216; what is no allele adds its quality to each.
        choice("A93 A93 C93 C93", "A,C", 320, "1/2:4:0,2,2:255,160,164,160,0,164");
        choice("A93 A93 C93 C93 T9", "A,C", 320, "1/2:5:0,2,2:255,160,164,160,0,164");
    }

    /** "The first two of them are ALLELES 1 and 2 (if there are so many)." */
    private static void upToTwoOthersAreAlleles() {
        notReported("G40 G40");
        choice("A40 A40", "A", 54, "0/1:2:0,2:54,0,4");
        choice("A40 C40", "A,C", 34, "1/2:2:0,1,1:34,17,24,17,0,24");
        choice("A40 C40 T40", "A,C", 34, "1/2:3:0,1,1:34,17,24,17,0,24");
        // An A that would be chosen is no allele behind two that are seen more often, but is behind one.
        notReported("A93 C10 C10 T10 T10");
        choice("A93 C10 T10 T10", "T,A", 70, "0/2:4:0,2,1:70,76,80,0,6,7");
    }

    /** "The others go by how often they are seen (most often first)", whatever their order and quality. */
    private static void theMostOftenSeenGoFirst() {
        choice("T30 T30 A30", "T,A", 41, "1/2:3:0,2,1:41,7,11,34,0,41");
        choice("A30 T30 T30", "T,A", 41, "1/2:3:0,2,1:41,7,11,34,0,41");
        choice("C0 C0 A93", "C,A", 70, "0/2:3:0,2,1:70,96,100,0,26,7");
    }

    /** "Then: bases by A C G T." */
    private static void equallyFrequentBasesGoByACGT() {
        choice("T40 A40", "A,T", 34, "1/2:2:0,1,1:34,17,24,17,0,24");
        choice("T40 C40", "C,T", 34, "1/2:2:0,1,1:34,17,24,17,0,24");
        choice("C40 A40", "A,C", 34, "1/2:2:0,1,1:34,17,24,17,0,24");
        choice("T40 C40 A40", "A,C", 34, "1/2:3:0,1,1:34,17,24,17,0,24");
        // G stands between the others where it is not the reference's base.
        Due.lines(one("TTACAGGGTCCA") + one("TTACAGGTTCCA"), 1, "ref\t10\t.\tC\tG,T" + ONCE_EACH);
        Due.lines(one("TTACAGGGTCCA") + one("TTACAGGATCCA"), 1, "ref\t10\t.\tC\tA,G" + ONCE_EACH);
    }

    /** "Losses before gains": the longest loss before the shortest gain. */
    private static void lossesGoBeforeGains() {
        Due.lines(GAIN_OF_T + LOSS_OF_3, 3, "ref\t13\t.\tCATG\tC,CTATG" + ONCE_EACH);
        Due.lines(LOSS_OF_3 + GAIN_OF_T, 3, "ref\t13\t.\tCATG\tC,CTATG" + ONCE_EACH);
        Due.lines(LOSS_OF_3 + GAIN_OF_T.repeat(2), 3, "ref\t13\t.\tCATG\tCTATG,C" + TWICE_AND_ONCE);
    }

    /** "Shorter ones first", of losses and of gains, whatever their letters. */
    private static void shorterOnesGoFirst() {
        Due.lines(LOSS_OF_2 + LOSS_OF_1, 3, "ref\t13\t.\tCAT\tCT,C" + ONCE_EACH);
        Due.lines(LOSS_OF_3 + LOSS_OF_2, 3, "ref\t13\t.\tCATG\tCG,C" + ONCE_EACH);
        Due.lines(LOSS_OF_3 + LOSS_OF_1, 3, "ref\t13\t.\tCATG\tCTG,C" + ONCE_EACH);
        Due.lines(GAIN_OF_GT + GAIN_OF_T, 3, "ref\t13\t.\tC\tCT,CGT" + ONCE_EACH);
        Due.lines(GAIN_OF_TTT + GAIN_OF_T, 3, "ref\t13\t.\tC\tCT,CTTT" + ONCE_EACH);
        Due.lines(one("GCTCCAAAATGTT") + GAIN_OF_GT, 3, "ref\t13\t.\tC\tCGT,CAAA" + ONCE_EACH);
        Due.lines(LOSS_OF_1 + LOSS_OF_3.repeat(2), 3, "ref\t13\t.\tCATG\tC,CTG" + TWICE_AND_ONCE);
    }

    /** "Gains of one length by the alphabet": by the first letter that differs. */
    private static void gainsOfOneLengthGoByTheAlphabet() {
        gains("T", "A", "A", "T");
        gains("T", "C", "C", "T");
        gains("C", "A", "A", "C");
        gains("CA", "AT", "AT", "CA");
        gains("CC", "CA", "CA", "CC");
        gains("CAC", "CAA", "CAA", "CAC");
        gains("CAA", "ACT", "ACT", "CAA");
    }

    /** Letters put in behind position 15, G, as they are read and as they are due. */
    private static void gains(String firstRead, String secondRead, String first, String second) {
        String reads = one("CCATG" + firstRead + "TTCGAA") + one("CCATG" + secondRead + "TTCGAA");
        Due.lines(reads, 3, "ref\t16\t.\tG\tG" + first + ",G" + second + ONCE_EACH);
    }

    /** "With n the greatest loss among its alleles (0 if there is none)": the third link is no allele. */
    private static void theThirdLinkIsNoAllele() {
        Due.lines(GAIN_OF_T.repeat(2) + GAIN_OF_GT.repeat(2) + LOSS_OF_3, 3,
            "ref\t13\t.\tC\tCT,CGT\t108\t.\t.\tGT:DP:AD:PL\t1/2:5:0,2,2:108,54,58,54,0,58");
        Due.lines(LOSS_OF_3 + LOSS_OF_2 + LOSS_OF_1, 3,
            "ref\t13\t.\tCAT\tCT,C\t34\t.\t.\tGT:DP:AD:PL\t1/2:3:0,1,1:34,17,24,17,0,24");
        Due.lines(GAIN_OF_TTT + GAIN_OF_GT + GAIN_OF_T, 3,
            "ref\t13\t.\tC\tCT,CGT\t34\t.\t.\tGT:DP:AD:PL\t1/2:3:0,1,1:34,17,24,17,0,24");
    }
}
