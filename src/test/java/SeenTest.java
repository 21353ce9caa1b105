/** Promises 9 and 10: seen and links. */
final class SeenTest {
    private SeenTest() {
    }

    public static void main(String[] args) {
        basesOfAllPlacedReads();
        linksOfAllKinds();
        unknownLetters();
        whatThereIsNot();
        aLaterCallForgets();
        Check.end();
    }

    private static void basesOfAllPlacedReads() {
        String reads = Reads.read("GATTACAG", 40) + Reads.read("ATCACAGG", 0)
            + Reads.read(Reads.opposite("TTACAGGCT"), 40) + Reads.read("CCCCCCCC", 40);
        Run run = new Run(Reads.REFERENCE, reads, 1);
        Due.seen(run, 0, "0 0 1 0");
        Due.seen(run, 1, "2 0 0 0");
        Due.seen(run, 2, "0 0 0 3");
        Due.seen(run, 3, "0 1 0 2");
        Due.seen(run, 4, "3 0 0 0");
        Due.seen(run, 5, "0 3 0 0");
        Due.seen(run, 7, "0 0 3 0");
        Due.seen(run, 8, "0 0 2 0");
        Due.seen(run, 10, "0 0 0 1");
        Due.seen(run, 11, "0 0 0 0");
        Due.links(run, 0, "1 0 0");
        Due.links(run, 1, "2 0 0");
        Due.links(run, 2, "3 0 0");
        Due.links(run, 7, "2 0 0");
        Due.links(run, 9, "1 0 0");
        Due.links(run, 10, "0 0 0");
    }

    private static void linksOfAllKinds() {
        String reads = Reads.read("GGCTCCGTTCGA", 40) + Reads.read("GGCTCCTGTTCG", 40)
            + Reads.read("GCTCCGTATGTT", 40) + Reads.read(Reads.opposite("GCTCCATGTT"), 40);
        Run run = new Run(Reads.REFERENCE, reads, 2);
        Due.links(run, 12, "1 2 1");
        Due.links(run, 13, "2 0 0");
        Due.links(run, 14, "3 0 0");
        Due.links(run, 11, "4 0 0");
        Due.seen(run, 12, "0 4 0 0");
        Due.seen(run, 13, "2 0 0 0");
        Due.seen(run, 14, "0 0 0 3");
        Due.seen(run, 15, "0 0 4 0");
    }

    private static void unknownLetters() {
        // A matched N shows no base, but the links on both sides of it.
        Run run = new Run(Reads.REFERENCE, Reads.read("GATTNCAG", 40), 1);
        Due.seen(run, 3, "0 0 0 1");
        Due.seen(run, 4, "0 0 0 0");
        Due.links(run, 3, "1 0 0");
        Due.links(run, 4, "1 0 0");
        // An N put in shows no link there.
        run = new Run(Reads.REFERENCE, Reads.read("GATTNACAGG", 40), 1);
        Check.same("script", run.script(0), "1111311111");
        Due.links(run, 2, "1 0 0");
        Due.links(run, 3, "0 0 0");
        Due.links(run, 4, "1 0 0");
        // Nor does one among other letters, before or behind them.
        for (String putIn : new String[] {"NT", "GN", "GNT"}) {
            run = new Run(Reads.REFERENCE, Reads.read("GCTCC" + putIn + "ATGTTCG", 40), 3);
            Due.links(run, 11, "1 0 0");
            Due.links(run, 12, "0 0 0");
            Due.links(run, 13, "1 0 0");
        }
    }

    private static void whatThereIsNot() {
        Run run = new Run(">r\nGATTACAG\n", Reads.read("GATTACAG", 40), 0);
        Due.seen(run, 7, "0 0 1 0");
        Due.links(run, 6, "1 0 0");
        Due.links(run, 7, "0 0 0");
        int[] positions = {Integer.MIN_VALUE, -1, 8, 47, 48, 49, Integer.MAX_VALUE};
        for (int p : positions) {
            Due.seen(run, p, "0 0 0 0");
            Due.links(run, p, "0 0 0");
        }
        int[] others = {Integer.MIN_VALUE, -1, 4, 5, Integer.MAX_VALUE};
        for (int other : others) {
            Check.same("seen(0, " + other + ")", run.x().seen(0, other), 0);
            Check.same("links(0, " + other + ")", run.x().links(0, other), 0);
        }
        Check.same("links(0, 3)", run.x().links(0, 3), 0);
        String bases = "GATTACAGGCTCCATG".repeat(3);
        run = new Run(">r\n" + bases.substring(0, 40) + "AAAAAACC\n", Reads.read("AAAAAACC", 40), 0);
        Due.seen(run, 47, "0 1 0 0");
        Due.links(run, 46, "1 0 0");
        Due.links(run, 47, "0 0 0");
        Due.seen(run, 48, "0 0 0 0");
        Due.links(run, 48, "0 0 0");
    }

    private static void aLaterCallForgets() {
        String[] before = {Reads.REFERENCE, Reads.read("GATTACAGGCTC", 40)};
        Run run = new Run(before, 0, ">r\nGATTAC\n", Reads.read("GATT", 40), 0);
        Due.seen(run, 3, "0 0 0 1");
        Due.seen(run, 4, "0 0 0 0");
        Due.seen(run, 10, "0 0 0 0");
        Due.links(run, 2, "1 0 0");
        Due.links(run, 3, "0 0 0");
        Due.links(run, 10, "0 0 0");
    }
}
