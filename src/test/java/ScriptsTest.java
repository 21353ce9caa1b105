/** Promise 8: step. */
final class ScriptsTest {
    private ScriptsTest() {
    }

    public static void main(String[] args) {
        ordinaryScripts();
        theFrontTakesTheGap();
        readsWithoutScript();
        fewerReads();
        whatThereIsNot();
        Check.end();
    }

    private static void ordinaryScripts() {
        Due.script(Reads.BASES, "GATTACAG", 0, "11111111");
        Due.script(Reads.BASES, "GATCACAG", 1, "11111111");
        Due.script(Reads.BASES, "GGCTCCGTTCGA", 2, "11111122111111");
        Due.script(Reads.BASES, "GCTCCGTATGTT", 2, "111113311111");
        Due.script(Reads.BASES, Reads.opposite("GCTCCGTATGTT"), 2, "111113311111");
        Due.script(Reads.BASES, "NGATTACAG", 1, "311111111");
        Due.script(Reads.BASES, "GATTACAGGCTCNATG", 1, "1111111111111111");
        Due.script(Reads.BASES, "GATTACAGGCTCNCA", 1, "111111111111311");
    }

    private static void theFrontTakesTheGap() {
        // Of the two T's (positions 2 and 3) the first is left out, as the way goes from the back.
        Due.script(Reads.BASES, "GATACAGGC", 1, "1121111111");
        // Of three T's the first is put in.
        Due.script(Reads.BASES, "GATTTACAGGC", 1, "11311111111");
        Due.script(Reads.BASES, Reads.opposite("GATACAGGC"), 1, "1121111111");
    }

    private static void readsWithoutScript() {
        Due.script(Reads.BASES, "CCCCCCCC", 1, "");
        Run doubtful = new Run(">r\nGGAAGGAA\n", Reads.read("GGAA", 40), 0);
        Check.same("script of a doubtful read", doubtful.script(0), "");
        // A read that was placed in the call before leaves no steps.
        String[] before = {Reads.REFERENCE, Reads.read("GATTACAG", 40)};
        Run run = new Run(before, 0, Reads.REFERENCE, Reads.read("CCCCCCCC", 40), 0);
        Check.same("script of a lost read", run.script(0), "");
        String[] twice = {Reads.REFERENCE, Reads.read("GATTACAGG", 40).repeat(2)};
        run = new Run(twice, 0, Reads.REFERENCE, Reads.read("GATTA", 40), 0);
        Check.same("script of a shorter read", run.script(0), "11111");
        Check.same("script of no read", run.script(1), "");
    }

    /** Fewer reads than two calls before: the reads that are no more have no steps. */
    private static void fewerReads() {
        ReadCaller x = new ReadCaller();
        Run.putAll(x, 0, Reads.REFERENCE);
        Run.putAll(x, 1, Reads.read("GATTACAGG", 40).repeat(2));
        x.call(0);
        Check.same("step(1, 0)", x.step(1, 0), 1);
        x.clear(1);
        Run.putAll(x, 1, Reads.read("GATTACAGG", 40));
        for (int n = 0; n < 3; n++) {
            x.call(0);
            Check.same("step(0, 0)", x.step(0, 0), 1);
            Check.same("step(1, 0)", x.step(1, 0), 0);
            Check.same("place(1, 0)", x.place(1, 0), -1);
        }
    }

    private static void whatThereIsNot() {
        Run run = new Run(Reads.REFERENCE, Reads.read("GATTACAG", 40), 0);
        int[] steps = {Integer.MIN_VALUE, -1, 8, 9, 19, Integer.MAX_VALUE};
        for (int i : steps) {
            Check.same("step(0, " + i + ")", run.x().step(0, i), 0);
        }
        int[] others = {Integer.MIN_VALUE, -1, 1, 8, Integer.MAX_VALUE};
        for (int r : others) {
            Check.same("step(" + r + ", 0)", run.x().step(r, 0), 0);
        }
        run = new Run(Reads.REFERENCE, Reads.read("GATTACAG", 40).repeat(8), 0);
        Check.same("step(7, 7)", run.x().step(7, 7), 1);
        Check.same("step(8, 0)", run.x().step(8, 0), 0);
    }
}
