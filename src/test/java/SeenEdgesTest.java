/** The edges of promises 9 and 10 and of WHAT IS SEEN: a method for each sentence that names one. */
final class SeenEdgesTest {
    private static final String NOTHING = "0 0 0 0";
    private static final String NO_LINKS = "0 0 0";

    private SeenEdgesTest() {
    }

    public static void main(String[] args) {
        onlyPlacedReadsShowSomething();
        aMatchedNShowsNoBaseButItsLinks();
        aLinkHasTheLesserQualityOfBothLetters();
        theQualityOfAMatchedNCounts();
        lossesOf1To3();
        gainsOf1To3();
        anNPutInShowsNoLink();
        whatStandsOutsideTheMatchesShowsNoLink();
        upTo8AreSeenAtASite();
        positionsAndBasesThatThereAre();
        positionsAndKindsThatThereAre();
        behindTheLastPositionIsNoLink();
        nothingIsLeftOfACallBefore();
        Check.end();
    }

    private static Run on(String bases, String reads, int k) {
        return new Run(">r\n" + bases + "\n", reads, k);
    }

    /** "By all PLACED reads." */
    private static void onlyPlacedReadsShowSomething() {
        String reads = Reads.read("GGAA", 40) + Reads.read("CCCCCCCC", 40);
        Run run = on("GGAAGGAA", reads, 0);
        for (int p = 0; p < 8; p++) {
            Due.seen(run, p, NOTHING);
            Due.links(run, p, NO_LINKS);
        }
        run = on("GGAAGGAA", reads + Reads.read("AAGG", 40), 0);
        Due.seen(run, 1, NOTHING);
        Due.links(run, 1, NO_LINKS);
        Due.seen(run, 2, "1 0 0 0");
        Due.links(run, 2, "1 0 0");
        Due.seen(run, 5, "0 0 1 0");
        Due.links(run, 5, NO_LINKS);
        Due.seen(run, 6, NOTHING);
    }

    /** "A MATCH of a letter that is no N shows this base"; "two MATCHES show a LINK", whatever their letters. */
    private static void aMatchedNShowsNoBaseButItsLinks() {
        Run run = on("GATTACAG", Reads.read("GATNACAG", 40), 1);
        Due.seen(run, 2, "0 0 0 1");
        Due.seen(run, 3, NOTHING);
        Due.seen(run, 4, "1 0 0 0");
        for (int p = 1; p <= 4; p++) {
            Due.links(run, p, "1 0 0");
        }
        // Two of them side by side.
        run = on("GATTACAG", Reads.read("GANNACAG", 40), 2);
        Due.seen(run, 2, NOTHING);
        Due.seen(run, 3, NOTHING);
        for (int p = 1; p <= 4; p++) {
            Due.links(run, p, "1 0 0");
        }
        // The same letter, changed to a base, shows that base.
        run = on("GATTACAG", Reads.read("GATGACAG", 40), 1);
        Due.seen(run, 3, "0 0 1 0");
    }

    /**
     * "With the lesser quality of both letters": a single link that is not PLAIN is reported from 24 on,
     * as 0/1 has the penalty 23.
     */
    private static void aLinkHasTheLesserQualityOfBothLetters() {
        String[] none = {};
        String[] one = {"ref\t13\t.\tCA\tC\t1\t.\t.\tGT:DP:AD:PL\t0/1:1:0,1:1,0,7"};
        linkOfQualities(24, 24, one);
        linkOfQualities(24, 93, one);
        linkOfQualities(93, 24, one);
        linkOfQualities(23, 93, none);
        linkOfQualities(93, 23, none);
        linkOfQualities(23, 24, none);
        linkOfQualities(24, 23, none);
        linkOfQualities(0, 93, none);
        linkOfQualities(93, 0, none);
    }

    /** A read of both strands, with the qualities of the letters before and behind a loss. */
    private static void linkOfQualities(int before, int behind, String[] due) {
        String qualities = "IIIII" + (char) (33 + before) + (char) (33 + behind) + "IIIII";
        Due.lines(Reads.read("GGCTCCTGTTCG", qualities), 1, due);
        String turned = new StringBuilder(qualities).reverse().toString();
        Due.lines(Reads.read(Reads.opposite("GGCTCCTGTTCG"), turned), 1, due);
    }

    /** "The lesser quality of both letters", also where one of them is N. */
    private static void theQualityOfAMatchedNCounts() {
        // The N is matched behind a loss: C at 12, N at 14.
        String loss = "ref\t11\t.\tTC\tT\t17\t.\t.\tGT:DP:AD:PL\t0/1:1:0,1:17,0,7";
        Due.lines(Reads.read("GGCTCNGTTCGA", "IIIII9IIIIII"), 3, loss,
            "ref\t13\t.\tCA\tC\t1\t.\t.\tGT:DP:AD:PL\t0/1:1:0,1:1,0,7");
        Due.lines(Reads.read("GGCTCNGTTCGA", "IIIII8IIIIII"), 3, loss);
        // The N shows a PLAIN link of 5 or 4, among losses: 0/1 has 35, 1/1 has 30 and the quality.
        String losses = Reads.some(4, "GGCTCCTGTTCG", 40);
        Due.lines(losses + Reads.read("GCTCNATGTT", "IIII&IIIII"), 1,
            "ref\t13\t.\tCA\tC\t125\t.\t.\tGT:DP:AD:PL\t0/1:5:1,4:125,0,0");
        Due.lines(losses + Reads.read("GCTCNATGTT", "IIII%IIIII"), 1,
            "ref\t13\t.\tCA\tC\t126\t.\t.\tGT:DP:AD:PL\t1/1:5:1,4:126,1,0");
    }

    /** "With n positions left out and nothing put in, a LOSS of n." */
    private static void lossesOf1To3() {
        String[] reads = {"TCCATGTTCGAACTTG", "TCCATGTTGAACTTGC", "TCCATGTTAACTTGCA", "TCCATGTTACTTGCAG"};
        for (int n = 0; n <= 3; n++) {
            Run run = on(Reads.MOST_BASES, Reads.read(reads[n], 40), 3);
            Due.links(run, 16, "1 0 0");
            Due.links(run, 17, n == 0 ? "1 0 0" : "0 1 0");
            for (int p = 18; p < 18 + n; p++) {
                Due.seen(run, p, NOTHING);
                Due.links(run, p, NO_LINKS);
            }
            Due.links(run, 18 + n, "1 0 0");
        }
    }

    /** "With letters w put in, none of them N, and nothing left out, a GAIN of w." */
    private static void gainsOf1To3() {
        String[] reads = {"AGGCTCCATGTT", "AGGCTCACATGTT", "AGGCTCAACATGTT", "AGGCTCAAACATGTT"};
        for (int n = 0; n <= 3; n++) {
            Run run = on(Reads.MOST_BASES, Reads.read(reads[n], 40), 3);
            Due.links(run, 10, "1 0 0");
            Due.links(run, 11, n == 0 ? "1 0 0" : "0 0 1");
            Due.links(run, 12, "1 0 0");
            Due.seen(run, 11, "0 1 0 0");
            Due.seen(run, 12, "0 1 0 0");
        }
    }

    /** "Otherwise (an N put in, or both) they show no link." */
    private static void anNPutInShowsNoLink() {
        String[] putIn = {"N", "NN", "NNN", "AN", "NA", "AAN", "ANA", "NAA"};
        for (String w : putIn) {
            Run run = on(Reads.MOST_BASES, Reads.read("AGGCTC" + w + "CATGTT", 40), 3);
            Due.links(run, 10, "1 0 0");
            Due.links(run, 11, NO_LINKS);
            Due.links(run, 12, "1 0 0");
            Due.seen(run, 11, "0 1 0 0");
            Due.seen(run, 12, "0 1 0 0");
        }
        // It has no part in the site then: four losses there are seen alone.
        Due.lines(Reads.some(4, "GGCTCCTGTTCG", 40) + Reads.some(4, "GGCTCCNATGTT", 93), 1,
            "ref\t13\t.\tCA\tC\t130\t.\t.\tGT:DP:AD:PL\t1/1:4:0,4:130,2,0");
    }

    /** "Two MATCHES that follow one another": what stands before the first or behind the last is between none. */
    private static void whatStandsOutsideTheMatchesShowsNoLink() {
        Run run = on("GATTACAG", Reads.read("CCCGATTACAG", 40), 3);
        Due.links(run, 0, "1 0 0");
        Due.links(run, 7, NO_LINKS);
        run = on("GATTACAGC", Reads.read("GATTACAGTTT", 40), 3);
        Check.same("script", run.script(0), "11111111333");
        Due.links(run, 6, "1 0 0");
        Due.links(run, 7, NO_LINKS);
        run = on("CGATTACAG", Reads.read("AAGATTACAG", 40), 2);
        Check.same("script", run.script(0), "3111111111");
        Due.links(run, 0, "1 0 0");
        // A single match shows its base and no link.
        run = on("A", Reads.read("CACC", 40), 3);
        Due.seen(run, 0, "1 0 0 0");
        Due.links(run, 0, NO_LINKS);
    }

    /** Each of at most 8 reads shows one thing at a site. */
    private static void upTo8AreSeenAtASite() {
        for (int n = 0; n <= 8; n++) {
            Run run = on(Reads.BASES, Reads.some(n, "GATTACAG", 40), 0);
            Due.seen(run, 0, "0 0 " + n + " 0");
            Due.seen(run, 7, "0 0 " + n + " 0");
            Due.links(run, 0, n + " 0 0");
            Due.links(run, 6, n + " 0 0");
            Due.links(run, 7, NO_LINKS);
        }
        Run run = on(Reads.BASES, Reads.some(8, "GGCTCCTGTTCG", 40), 1);
        Due.links(run, 12, "0 8 0");
        run = on(Reads.BASES, Reads.some(8, "GCTCCTATGTT", 40), 1);
        Due.links(run, 12, "0 0 8");
        run = on(Reads.BASES, Reads.some(8, "TTACAGTCTCCA", 40), 1);
        Due.seen(run, 8, "0 0 0 8");
    }

    /** "0 when there is no such base or position": bases 0 .. 3, positions 0 .. L - 1. */
    private static void positionsAndBasesThatThereAre() {
        int[] noBases = {Integer.MIN_VALUE, -2, -1, 4, 5, 256, Integer.MAX_VALUE};
        String[] letters = {"1 0 0 0", "0 1 0 0", "0 0 1 0", "0 0 0 1"};
        for (int b = 0; b < 4; b++) {
            String bases = "GATTACAG" + "ACGT".charAt(b);
            Run run = on(bases, Reads.read(bases, 40), 0);
            Due.seen(run, 0, "0 0 1 0");
            Due.seen(run, 8, letters[b]);
            for (int other : noBases) {
                Check.same("seen(8, " + other + ")", run.x().seen(8, other), 0);
            }
        }
        int[] noPositions = {Integer.MIN_VALUE, -2, -1, 48, 49, 256, Integer.MAX_VALUE};
        Run run = on(Reads.MOST_BASES, Reads.read("GATTACAG", 40) + Reads.read("GGTCTAAGC", 40), 0);
        Due.seen(run, 0, "0 0 1 0");
        Due.seen(run, 47, "0 1 0 0");
        for (int p : noPositions) {
            Due.seen(run, p, NOTHING);
        }
    }

    /** "0 when there is no such position or kind": kinds 0 .. 2. */
    private static void positionsAndKindsThatThereAre() {
        int[] noKinds = {Integer.MIN_VALUE, -2, -1, 3, 4, 5, 20, 256, Integer.MAX_VALUE};
        String reads = Reads.read("GCTCCATGTT", 40) + Reads.read("GGCTCCGTTCGA", 40) + Reads.read("GCTCCGTATGTT", 40);
        Run run = on(Reads.BASES, reads, 2);
        Due.links(run, 12, "1 1 1");
        for (int kind : noKinds) {
            Check.same("links(12, " + kind + ")", run.x().links(12, kind), 0);
        }
        int[] noPositions = {Integer.MIN_VALUE, -2, -1, 48, 49, 256, Integer.MAX_VALUE};
        run = on(Reads.MOST_BASES, Reads.read("GATTACAG", 40) + Reads.read("GGTCTAAGC", 40), 0);
        Due.links(run, 0, "1 0 0");
        Due.links(run, 46, "1 0 0");
        for (int p : noPositions) {
            Due.links(run, p, NO_LINKS);
        }
    }

    /** "Each position p has a site of bases, and behind it, p < L - 1, one of links." */
    private static void behindTheLastPositionIsNoLink() {
        Run run = on(Reads.MOST_BASES, Reads.some(8, "GGTCTAAGC", 40), 0);
        Due.links(run, 46, "8 0 0");
        Due.links(run, 47, NO_LINKS);
        run = on("GA", Reads.read("GACC", 40), 2);
        Due.links(run, 0, "1 0 0");
        Due.links(run, 1, NO_LINKS);
        run = on("GA", Reads.read("GCCA", 40), 2);
        Due.links(run, 0, "0 0 1");
        Due.links(run, 1, NO_LINKS);
    }

    /** "All that follows shows the latest call": a shorter reference, or no reads, leave nothing of the longer. */
    private static void nothingIsLeftOfACallBefore() {
        String[] before = {">r\n" + Reads.MOST_BASES + "\n", Reads.some(8, "GGTCTAAGC", 40)};
        String[] references = {">r\n" + Reads.MOST_BASES + "\n", Reads.REFERENCE, ">r\nA\n"};
        for (String reference : references) {
            Run run = new Run(before, 0, reference, "", 0);
            for (int p = 0; p < 48; p++) {
                Due.seen(run, p, NOTHING);
                Due.links(run, p, NO_LINKS);
            }
        }
    }
}
