/** Compares one call on a new object, or what it shows, with what is due. */
final class Due {
    static final String LOST = "1 -1 -1 -1 -1";
    static final String DOUBTFUL = "2 -1 -1 -1 -1";
    static final String NO_READ = "-1 -1 -1 -1 -1";

    private Due() {
    }

    /** The place of a reference's first error, or -1 when there is none. */
    static void reference(String text, int error) {
        Check.same("reference " + text, new Run(text, "", 0).answer(), error < 0 ? 0 : -1000 - error);
    }

    /** The place of the reads' first error, or -1 when there is none. */
    static void reads(String text, int error) {
        int got = new Run(">a\nAAAAAAAA\n", text, 0).answer();
        Check.same("reads " + text, got, error < 0 ? 0 : -2000 - error);
    }

    /** State, s, e, distance and direction of a read. */
    static void place(String bases, String letters, int k, String due) {
        Run run = new Run(">r\n" + bases + "\n", Reads.read(letters, 40), k);
        Check.same(letters + " on " + bases + " within " + k, run.place(0), due);
        Check.same("reads()", run.x().reads(), 1);
    }

    static void script(String bases, String letters, int k, String due) {
        Run run = new Run(">r\n" + bases + "\n", Reads.read(letters, 40), k);
        Check.same("script of " + letters + " on " + bases, run.script(0), due);
    }

    /** How often A, C, G and T are seen. */
    static void seen(Run run, int p, String due) {
        StringBuilder text = new StringBuilder();
        for (int b = 0; b < 4; b++) {
            text.append(b == 0 ? "" : " ").append(run.x().seen(p, b));
        }
        Check.same("seen at " + p, text.toString(), due);
    }

    /** How often plain links, losses and gains are seen. */
    static void links(Run run, int p, String due) {
        StringBuilder text = new StringBuilder();
        for (int kind = 0; kind < 3; kind++) {
            text.append(kind == 0 ? "" : " ").append(run.x().links(p, kind));
        }
        Check.same("links behind " + p, text.toString(), due);
    }

    /** The lines of the table behind the two first ones. */
    static void lines(String reads, int k, String... due) {
        linesOn(Reads.REFERENCE, reads, k, due);
    }

    static void linesOn(String reference, String reads, int k, String... due) {
        Run run = new Run(reference, reads, k);
        StringBuilder table = new StringBuilder(Reads.FIRST_LINES);
        for (String line : due) {
            table.append(line).append('\n');
        }
        Check.same("sites reported", run.answer(), due.length);
        Check.same("table", run.table(), table.toString());
        Check.same("length()", run.x().length(), table.length());
    }
}
