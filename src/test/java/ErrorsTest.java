/** Promise 5: what call refuses, and what it leaves then. */
final class ErrorsTest {
    private static final String READ = Reads.read("ACGT", 0);

    private ErrorsTest() {
    }

    public static void main(String[] args) {
        wrongReferences();
        rightReferences();
        wrongReads();
        rightReads();
        whatWasClearedDoesNotCount();
        theOrderOfRefusals();
        aRefusedCallChangesNothing();
        changedTextsChangeNothing();
        Check.end();
    }

    private static void wrongReferences() {
        Due.reference("", 0);
        Due.reference("x", 0);
        Due.reference("\n", 0);
        Due.reference(" >a\nA\n", 0);
        Due.reference(">", 1);
        Due.reference(">\n", 1);
        Due.reference("> a\nA\n", 1);
        Due.reference(">a b\nA\n", 2);
        Due.reference(">abcdefgh", 9);
        Due.reference(">abcdefghi\nA\n", 9);
        Due.reference(">abcdefgh\n", 10);
        Due.reference(">a\n\n", 3);
        Due.reference(">a\n\nA\n", 3);
        Due.reference(">a\n>", 3);
        Due.reference(">a\nACGN\n", 6);
        Due.reference(">a\nACgT\n", 5);
        Due.reference(">a\nAC T\n", 5);
        Due.reference(">a\nACGT", 7);
        Due.reference(">a\nACGT\n\n", 8);
        Due.reference(">a\nACGT\nAC", 10);
        Due.reference(">a\nACGT\n>b\nA\n", 8);
        Due.reference(">a\n" + "A".repeat(48), 51);
        Due.reference(">a\n" + "A".repeat(49) + "\n", 51);
        Due.reference(">a\n" + "A".repeat(48) + "\nA\n", 52);
        Due.reference(">a\n" + "A".repeat(48) + "\n\n", 52);
        Due.reference(">a\n" + "ACGT\n".repeat(12) + "A\n", 63);
        Due.reference(">a\n" + "A\n".repeat(48) + "A", 99);
        Due.reference(">abcdefgh\n" + "A\n".repeat(42) + "AAAAAA", 100);
    }

    private static void rightReferences() {
        Due.reference(">a\nA\n", -1);
        Due.reference(">!~>@+\"#$\nACGT\n", -1);
        Due.reference(">a\n" + "A".repeat(48) + "\n", -1);
        Due.reference(">abcdefgh\nA\nCG\nT\n", -1);
        Due.reference(">a\n" + "A\n".repeat(48), -1);
    }

    private static void wrongReads() {
        Due.reads("x", 0);
        Due.reads("\n", 0);
        Due.reads("@", 1);
        Due.reads("@\n", 1);
        Due.reads("@ \n", 1);
        Due.reads("@abcdefghi\n", 9);
        Due.reads("@abcdefgh\n", 10);
        Due.reads("@a\n", 3);
        Due.reads("@a\nACG\n", 6);
        Due.reads("@a\nACGT", 7);
        Due.reads("@a\nACXT\n+\n!!!!\n", 5);
        Due.reads("@a\nACnT\n+\n!!!!\n", 5);
        Due.reads("@a\nACGT\n", 8);
        Due.reads("@a\nACGT\n-\n!!!!\n", 8);
        Due.reads("@a\nACGT\n+", 9);
        Due.reads("@a\nACGT\n+a\n!!!!\n", 9);
        Due.reads("@a\nACGT\n+\n", 10);
        Due.reads("@a\nACGT\n+\n!!!\n", 13);
        Due.reads("@a\nACGT\n+\n!!!!", 14);
        Due.reads("@a\nACGT\n+\n!!!!!\n", 14);
        Due.reads("@a\nACGT\n+\n!! !\n", 12);
        Due.reads("@a\n" + "A".repeat(17) + "\n", 19);
        Due.reads(READ + "\n", 15);
        Due.reads(READ + ">a\n", 15);
        Due.reads(READ + "@a\nACGT\n+\n!!!\n", 28);
        Due.reads(READ.repeat(8) + "@", 120);
        Due.reads(READ.repeat(8) + READ, 120);
        Due.reads(READ.repeat(8) + "\n", 120);
    }

    private static void rightReads() {
        Due.reads("", -1);
        Due.reads(READ, -1);
        Due.reads("@@+>!~abc\nNNNN\n+\n@+~!\n", -1);
        Due.reads(READ.repeat(8), -1);
        Due.reads(Reads.read("ACGTN".repeat(3) + "A", 93), -1);
        Check.same("reads()", new Run(">a\nA\n", READ.repeat(8), 0).x().reads(), 8);
        Check.same("reads()", new Run(">a\nA\n", "", 0).x().reads(), 0);
    }

    private static void whatWasClearedDoesNotCount() {
        ReadCaller x = new ReadCaller();
        Run.putAll(x, 0, ">a\nACGT\n");
        Run.putAll(x, 1, READ);
        Check.same("call(0)", x.call(0), 0);
        for (int n = 1; n < 8; n++) {
            x.clear(0);
            Run.putAll(x, 0, ">a\nACGT\n".substring(0, n));
            Check.same("call(0)", x.call(0), -1000 - n);
        }
        x.clear(0);
        Run.putAll(x, 0, ">a\nACGT\n");
        for (int n = 1; n < READ.length(); n++) {
            x.clear(1);
            Run.putAll(x, 1, READ.substring(0, n));
            Check.same("call(0)", x.call(0), -2000 - n);
        }
    }

    private static void theOrderOfRefusals() {
        int[] outside = {Integer.MIN_VALUE, -1, 4, 5, Integer.MAX_VALUE};
        for (int k : outside) {
            Check.same("call(" + k + ")", new Run("", "x", k).answer(), -1);
            Check.same("call(" + k + ")", new Run(Reads.REFERENCE, READ, k).answer(), -1);
        }
        for (int k = 0; k <= 3; k++) {
            Check.same("call(" + k + ")", new Run(">", "x", k).answer(), -1001);
            Check.same("call(" + k + ")", new Run(Reads.REFERENCE, "x", k).answer(), -2000);
            Check.same("call(" + k + ")", new Run(Reads.REFERENCE, READ, k).answer(), 0);
        }
    }

    private static void aRefusedCallChangesNothing() {
        ReadCaller x = new ReadCaller();
        Run.putAll(x, 0, Reads.REFERENCE);
        Run.putAll(x, 1, Reads.read("GATTACAG", 40) + Reads.read("GATCACAG", 40));
        Check.same("call(1)", x.call(1), 1);
        theFirstCallIsShown(x);
        Check.same("call(4)", x.call(4), -1);
        theFirstCallIsShown(x);
        x.clear(0);
        Run.putAll(x, 0, ">other\nCCCCCCCCCC\nX");
        Check.same("call(1)", x.call(1), -1018);
        theFirstCallIsShown(x);
        x.clear(0);
        Run.putAll(x, 0, ">other\nCCCCCCCCCC\n");
        Run.putAll(x, 1, Reads.read("CCCCCC", 3) + "x");
        Check.same("call(1)", x.call(1), -2065);
        Check.same("call(1)", x.call(1), -2065);
        theFirstCallIsShown(x);
        x.clear(1);
        Check.same("call(1)", x.call(1), 0);
        Check.same("reads()", x.reads(), 0);
        Check.same("length()", x.length(), 69);
        Check.same("seen(0, 2)", x.seen(0, 2), 0);
        Check.same("links(0, 0)", x.links(0, 0), 0);
    }

    private static void changedTextsChangeNothing() {
        ReadCaller x = new ReadCaller();
        Run.putAll(x, 0, Reads.REFERENCE);
        Run.putAll(x, 1, Reads.read("GATTACAG", 40) + Reads.read("GATCACAG", 40));
        Check.same("call(1)", x.call(1), 1);
        x.clear(0);
        x.clear(1);
        theFirstCallIsShown(x);
        Run.putAll(x, 0, ">other\nC\n");
        Run.putAll(x, 1, READ);
        theFirstCallIsShown(x);
    }

    private static void theFirstCallIsShown(ReadCaller x) {
        Check.same("reads()", x.reads(), 2);
        Check.same("place(1, 0)", x.place(1, 0), 0);
        Check.same("place(1, 2)", x.place(1, 2), 8);
        Check.same("place(1, 3)", x.place(1, 3), 1);
        Check.same("step(1, 7)", x.step(1, 7), 1);
        Check.same("step(1, 8)", x.step(1, 8), 0);
        Check.same("seen(3, 1)", x.seen(3, 1), 1);
        Check.same("seen(3, 3)", x.seen(3, 3), 1);
        Check.same("seen(0, 2)", x.seen(0, 2), 2);
        Check.same("links(0, 0)", x.links(0, 0), 2);
        String line = "ref\t4\t.\tT\tC\t14\t.\t.\tGT:DP:AD:PL\t0/1:2:1,1:14,0,44\n";
        Check.same("length()", x.length(), 69 + line.length());
        for (int i = 0; i < line.length(); i++) {
            Check.same("letter(" + (69 + i) + ")", x.letter(69 + i), line.charAt(i));
        }
    }
}
