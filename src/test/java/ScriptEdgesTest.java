/** The edges of promise 8 and of the SCRIPT: a method for each sentence of the document that names one. */
final class ScriptEdgesTest {
    private ScriptEdgesTest() {
    }

    public static void main(String[] args) {
        theShortestAndTheLongestScripts();
        lettersPutInAtTheEnds();
        aMatchGoesFirst();
        leftOutGoesBeforePutIn();
        stepsGoFrom0OnFromTheFront();
        aReadThatIsNotPlacedHasNone();
        thereIsNoSuchRead();
        Check.end();
    }

    /** 4 to 16 letters and at most three changes: 4 to 19 steps. */
    private static void theShortestAndTheLongestScripts() {
        Due.script("GATT", "GATT", 0, "1111");
        Due.script("A", "CACC", 3, "3133");
        Due.script("GATTACAGGCTCCATG", "GATTACAGGCTCCATG", 0, "1111111111111111");
        Due.script(Reads.MOST_BASES, "GATTACAGGCATGTTC", 3, "1111111112221111111");
        Due.script(Reads.MOST_BASES, "AGCCGTATATCTAAGC", 3, "1111111112221111111");
        Due.script(Reads.MOST_BASES, Reads.opposite("AGCCGTATATCTAAGC"), 3, "1111111112221111111");
        Due.script(Reads.MOST_BASES, "GATTAAAACAGGCTCC", 3, "1111333111111111");
    }

    /** "(0, i, j for none)": at (i, 0) the letters that are left are PUT IN. */
    private static void lettersPutInAtTheEnds() {
        Due.script("GATTACAG", "NGATTACAG", 1, "311111111");
        Due.script("GATTACAG", "CCCGATTACAG", 3, "33311111111");
        Due.script("GATTACAG", "GATTACAGN", 1, "111111113");
        Due.script("GATTACAG", "GATTACAGCCC", 3, "11111111333");
        Due.script("GATTACAG", "NGATTACAGNN", 3, "31111111133");
        Due.script("A", "CCCA", 3, "3331");
        Due.script("A", "ACCC", 3, "1333");
    }

    /** "If d(i, j) is d(i - 1, j - 1), plus 1 unless the letter i is the base there: a MATCH." */
    private static void aMatchGoesFirst() {
        // A changed letter is a MATCH, also the first one and one that is N.
        Due.script("GATTACAG", "CATTACAG", 1, "11111111");
        Due.script("GATTACAG", "GATTNCAG", 1, "11111111");
        Due.script("GATTACAG", "GNNNACAG", 3, "11111111");
        // Going back, the last of equal letters are matched, so the first is left out or put in.
        Due.script(Reads.BASES, "GATACAGGC", 1, "1121111111");
        Due.script(Reads.BASES, "GATTTACAGGC", 1, "11311111111");
        Due.script("GATTTTACAGGC", "GATTTTTTTACAGGC", 3, "113331111111111");
        Due.script("CGATTTTACAGGC", "CGATACAGGC", 3, "1112221111111");
    }

    /** "Else, if d(i, j) is d(i, j - 1) + 1: that position is LEFT OUT; else that letter is PUT IN." */
    private static void leftOutGoesBeforePutIn() {
        // CAC for ACA: going back, the last A left out and then C put in, or the other way round, are two changes.
        Due.script("GATTACAGGTC", "GATTCACGGTC", 2, "111131121111");
        Due.script("GATTCACGGTC", "GATTACAGGTC", 2, "111131121111");
    }

    /** "The i-th step (from 0 on, from the front)"; "0 when there is none". */
    private static void stepsGoFrom0OnFromTheFront() {
        Run run = new Run(">r\n" + Reads.MOST_BASES + "\n", Reads.read("GATTACAGGCATGTTC", 40), 3);
        String due = "1111111112221111111";
        for (int i = 0; i < due.length(); i++) {
            Check.same("step(0, " + i + ")", run.x().step(0, i), due.charAt(i) - '0');
        }
        int[] others = {Integer.MIN_VALUE, -20, -2, -1, 19, 20, 48, 256, Integer.MAX_VALUE};
        for (int i : others) {
            Check.same("step(0, " + i + ")", run.x().step(0, i), 0);
        }
        run = new Run(">r\nGATT\n", Reads.read("GATT", 40), 0);
        Check.same("step(0, 3)", run.x().step(0, 3), 1);
        Check.same("step(0, 4)", run.x().step(0, 4), 0);
    }

    /** "Of a read that is not PLACED there are none", also where there were some before. */
    private static void aReadThatIsNotPlacedHasNone() {
        String[] before = {">r\nGGAACCCCCCCC\n", Reads.read("GGAA", 40) + Reads.read("CCCCCCCC", 40)};
        Run run = new Run(before, 0, ">r\nGGAAGGAA\n", before[1], 0);
        for (int i = -1; i <= 19; i++) {
            Check.same("a doubtful read's step " + i, run.x().step(0, i), 0);
            Check.same("a lost read's step " + i, run.x().step(1, i), 0);
        }
    }

    /** "0 when there is none": of a read that there is not. */
    private static void thereIsNoSuchRead() {
        int[] others = {Integer.MIN_VALUE, -2, -1, 256, Integer.MAX_VALUE};
        String[] before = {Reads.REFERENCE, Reads.some(8, "GATTACAGG", 40)};
        for (int n = 0; n <= 8; n++) {
            Run run = new Run(before, 0, Reads.REFERENCE, Reads.some(n, "GATTACAG", 40), 0);
            for (int r = 0; r <= 9; r++) {
                Check.same("script of read " + r + " of " + n, run.script(r), r < n ? "11111111" : "");
            }
            for (int r : others) {
                Check.same("script of read " + r, run.script(r), "");
            }
        }
    }
}
