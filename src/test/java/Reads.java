/** Writes texts of references and reads. */
final class Reads {
    static final String BASES = "GATTACAGGCTCCATGTTCGAACT";
    /** As many positions as there may be; no two parts of it are much alike. */
    static final String MOST_BASES = BASES + "TGCAGAGCCGTATACGGTCTAAGC";
    static final String REFERENCE = ">ref\n" + BASES + "\n";
    static final String FIRST_LINES =
        "##fileformat=VCFv4.3\n#CHROM\tPOS\tID\tREF\tALT\tQUAL\tFILTER\tINFO\tFORMAT\tS\n";

    private Reads() {
    }

    static String read(String letters, String qualities) {
        return "@r\n" + letters + "\n+\n" + qualities + "\n";
    }

    /** A read with one quality for all its letters. */
    static String read(String letters, int quality) {
        return read(letters, String.valueOf((char) (33 + quality)).repeat(letters.length()));
    }

    /** The same read several times. */
    static String some(int n, String letters, int quality) {
        return read(letters, quality).repeat(n);
    }

    static String opposite(String letters) {
        StringBuilder text = new StringBuilder();
        for (int i = letters.length() - 1; i >= 0; i--) {
            text.append("TGCAN".charAt("ACGTN".indexOf(letters.charAt(i))));
        }
        return text.toString();
    }
}
