/** Makes up references and reads, always the same ones from the same seed. */
final class Samples {
    private long state;

    Samples(long seed) {
        state = seed * 2862933555777941757L + 3037000493L;
    }

    /** A number from 0 to n - 1. */
    int pick(int n) {
        state = state * 6364136223846793005L + 1442695040888963407L;
        return (int) ((state >>> 33) % n);
    }

    String bases() {
        int length = pick(6) == 0 ? 1 + pick(8) : 8 + pick(41);
        String unit = letters(pick(3) == 0 ? 1 + pick(10) : length, 4);
        String text = unit.repeat(length / unit.length() + 1).substring(0, length);
        if (length > 1 && pick(6) == 0) {
            text = text.substring(0, length / 2) + Reads.opposite(text.substring(0, length / 2));
        }
        return text;
    }

    String referenceText(String bases) {
        StringBuilder text = new StringBuilder(">").append(name()).append('\n');
        int often = 2 + pick(30);
        int room = 100 - text.length() - bases.length() - 1;
        for (int i = 0; i < bases.length(); i++) {
            text.append(bases.charAt(i));
            if (i < bases.length() - 1 && room > 0 && pick(often) == 0) {
                text.append('\n');
                room--;
            }
        }
        return text.append('\n').toString();
    }

    /** Reads of one or two changed copies of the bases, some of them changed again. */
    String readsText(String bases) {
        String[] copies = {changed(bases, pick(4), 4), changed(bases, pick(4), 4)};
        int home = pick(3) == 0 ? -1 : pick(bases.length());
        int mode = pick(5);
        StringBuilder text = new StringBuilder();
        int n = pick(9);
        for (int r = 0; r < n; r++) {
            String letters = pick(12) == 0 ? letters(4 + pick(13), 5) : part(copies[pick(2)], home);
            letters = pick(3) == 0 ? changed(letters, pick(3), 5) : letters;
            letters = pick(3) == 0 ? Reads.opposite(letters) : letters;
            letters = (letters + letters(4, 4)).substring(0, Math.min(16, Math.max(4, letters.length())));
            text.append('@').append(name()).append('\n').append(letters).append("\n+\n");
            text.append(qualities(letters.length(), mode)).append('\n');
        }
        return text.length() > 420 ? readsText(bases) : text.toString();
    }

    /** A text with its end cut off, or with something put in, left out or both; no longer than the room. */
    String spoilt(String text, int room) {
        int at = pick(text.length() + 1);
        String[] characters = {"\n", " ", ">", "@", "+", "A", "T", "N", "!", "x", "@a\nACGT\n+\n!!!!\n", "ACGTACGT"};
        String c = characters[pick(characters.length)];
        String end = text.substring(at);
        String rest = end.isEmpty() ? "" : end.substring(1);
        String[] ways = {text.substring(0, at), text.substring(0, at) + c + rest, text.substring(0, at) + rest,
            text.substring(0, at) + c + end};
        String spoilt = ways[pick(4)];
        return spoilt.length() > room ? text : spoilt;
    }

    private String part(String copy, int home) {
        int length = 4 + pick(13);
        int from = home < 0 ? pick(copy.length()) : Math.max(0, home - 2 - pick(length));
        from = Math.min(from, Math.max(0, copy.length() - length));
        return copy.substring(from, Math.min(copy.length(), from + length));
    }

    private String changed(String text, int changes, int kinds) {
        StringBuilder result = new StringBuilder(text);
        for (int n = 0; n < changes && result.length() > 0; n++) {
            int at = pick(result.length());
            switch (pick(4)) {
                case 0 -> result.delete(at, Math.min(result.length(), at + 1 + pick(3)));
                case 1 -> result.insert(at, letters(1 + pick(3), kinds));
                default -> result.replace(at, at + 1, letters(1, kinds));
            }
        }
        return result.length() == 0 ? "A" : result.toString();
    }

    private String letters(int n, int kinds) {
        StringBuilder text = new StringBuilder();
        for (int i = 0; i < n; i++) {
            text.append("ACGTN".charAt(pick(kinds)));
        }
        return text.toString();
    }

    private String name() {
        StringBuilder text = new StringBuilder();
        int n = 1 + pick(8);
        for (int i = 0; i < n; i++) {
            text.append((char) (33 + pick(94)));
        }
        return text.toString();
    }

    private String qualities(int n, int mode) {
        StringBuilder text = new StringBuilder();
        for (int i = 0; i < n; i++) {
            int[] ways = {40, 93, pick(94), pick(8), 20 + pick(10)};
            text.append((char) (33 + ways[mode]));
        }
        return text.toString();
    }
}
