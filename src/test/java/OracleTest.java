/** All promises on made-up samples, against another program that was written from the document. */
final class OracleTest {
    private static final int SAMPLES = 4000;
    private static final int SPOILT = 4000;

    private static final int[] KINDS = new int[8];

    private OracleTest() {
    }

    public static void main(String[] args) {
        Samples samples = new Samples(1);
        String[] before = null;
        for (int n = 0; n < SAMPLES && !Check.anyWrong(); n++) {
            String bases = samples.bases();
            String[] texts = {samples.referenceText(bases), samples.readsText(bases)};
            int k = samples.pick(4);
            compare(samples.pick(2) == 0 ? null : before, samples.pick(4), texts, k);
            before = texts;
        }
        for (int n = 0; n < SPOILT && !Check.anyWrong(); n++) {
            compareAnswer(samples);
        }
        theSamplesAreOfAllKinds();
        theMostSites();
        Check.end();
    }

    private static void compareAnswer(Samples samples) {
        String bases = samples.bases();
        String reference = samples.referenceText(bases);
        String reads = samples.readsText(bases);
        if (samples.pick(2) == 0) {
            reference = samples.spoilt(reference, 100);
        } else {
            reads = samples.spoilt(reads, 420);
        }
        int k = samples.pick(4);
        int due = Oracle.answer(reference, reads, k);
        Check.same("call(" + k + ") of\n" + reference + "and\n" + reads, new Run(reference, reads, k).answer(), due);
        KINDS[due <= -2000 ? 7 : due <= -1000 ? 6 : 5]++;
    }

    private static void compare(String[] before, int beforeK, String[] texts, int k) {
        Oracle oracle = new Oracle(texts[0], texts[1], k);
        Run run = new Run(before, beforeK, texts[0], texts[1], k);
        Check.same("call(" + k + ")", run.answer(), oracle.reported);
        Check.same("reads()", run.x().reads(), oracle.reads.size());
        for (int r = 0; r < oracle.reads.size(); r++) {
            Oracle.Placed placed = oracle.reads.get(r);
            Check.same("place of read " + r, run.place(r), textOf(placed));
            Check.same("script of read " + r, run.script(r), placed.script());
            KINDS[placed.state()]++;
        }
        for (int p = 0; p < oracle.bases.length(); p++) {
            compareSites(run, oracle, p);
        }
        Check.same("table", run.table(), oracle.table.toString());
        Check.same("letter behind the table", run.x().letter(oracle.table.length()), 0);
        if (Check.anyWrong()) {
            System.out.println("of call(" + k + ") with\n" + texts[0] + "and\n" + texts[1]);
        }
        KINDS[oracle.reported > 0 ? 3 : 4]++;
    }

    private static void compareSites(Run run, Oracle oracle, int p) {
        for (int b = 0; b < 4; b++) {
            int due = Oracle.often(oracle.baseSites.get(p), "ACGT".substring(b, b + 1));
            Check.same("seen(" + p + ", " + b + ")", run.x().seen(p, b), due);
        }
        for (int kind = 0; kind < 3; kind++) {
            int due = Oracle.oftenOfKind(oracle.linkSites.get(p), "=-+".charAt(kind));
            Check.same("links(" + p + ", " + kind + ")", run.x().links(p, kind), due);
        }
    }

    /** Eight reads with three changes each, all at different positions. */
    private static void theMostSites() {
        String bases = Reads.MOST_BASES;
        boolean[] changed = new boolean[bases.length()];
        StringBuilder reads = new StringBuilder();
        for (int r = 0; r < 8; r++) {
            int s = r * 32 / 7;
            StringBuilder letters = new StringBuilder(bases.substring(s, s + 16));
            int changes = 0;
            for (int i = 1; i < 15 && changes < 3; i++) {
                if (!changed[s + i]) {
                    changed[s + i] = true;
                    letters.setCharAt(i, Reads.opposite(letters.substring(i, i + 1)).charAt(0));
                    changes++;
                    i++;
                }
            }
            reads.append(Reads.read(letters.toString(), 93));
        }
        String[] texts = {">longname\n" + bases + "\n", reads.toString()};
        compare(null, 0, texts, 3);
        Check.same("sites reported", new Run(texts[0], texts[1], 3).answer(), 24);
    }

    private static String textOf(Oracle.Placed placed) {
        Oracle.Fit fit = placed.fit();
        if (fit == null) {
            return placed.state() + " -1 -1 -1 -1";
        }
        return "0 " + fit.s() + " " + fit.e() + " " + fit.distance() + " " + (fit.backward() ? 1 : 0);
    }

    /** A comparison that never meets a kind of answer would show nothing about it. */
    private static void theSamplesAreOfAllKinds() {
        for (int kind = 0; kind < KINDS.length; kind++) {
            Check.same("enough samples of kind " + kind, KINDS[kind] > 300, true);
        }
    }
}
