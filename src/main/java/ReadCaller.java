/**
 * Finds where a sample differs from a reference: places short reads on it, gathers what they show,
 * chooses a pair of alleles at every site and writes the differences as a table of text.
 */
public final class ReadCaller {
    public static final int NONE = -1;

    private static final int MOST_BASES = 48;
    private static final int MOST_READS = 8;
    private static final int FEWEST_LETTERS = 4;
    private static final int MOST_LETTERS = 16;
    private static final int MOST_NAME = 8;
    private static final int MOST_CHANGES = 3;
    private static final int MOST_STEPS = MOST_LETTERS + MOST_CHANGES;

    private static final int REFERENCE_ROOM = 100;
    private static final int READS_ROOM = 420;
    private static final int REFERENCE_ERROR = -1000;
    private static final int READS_ERROR = -2000;

    /** A letter's code is its place here, so that 3 less the code of a base is its opposite. */
    private static final String LETTERS = "ACGTN";
    private static final int BASES = 4;
    private static final int UNKNOWN = 4;

    private static final int PLACED = 0;
    private static final int LOST = 1;
    private static final int DOUBTFUL = 2;

    private static final int MATCH = 1;
    private static final int LEFT_OUT = 2;
    private static final int PUT_IN = 3;

    /**
     * What is seen has a number: of a base its code; of a link 0 if it is plain, n for a loss of n,
     * and for a gain a 1 with the codes of its letters behind it as digits of base 4. At most 3
     * letters or positions stand between two matches, so losses are 1 .. 3 and gains are from 4 on,
     * and the order of the numbers is the order that the document sets among equally frequent ones.
     */
    private static final int PLAIN = 0;
    private static final int FIRST_GAIN = 4;
    private static final int NOTHING_PUT_IN = 1;
    private static final int UNKNOWN_PUT_IN = 0;
    private static final int NO_LINK = -1;

    private static final int PLAIN_LINKS = 0;
    private static final int LOSSES = 1;
    private static final int GAINS = 2;

    private final Text referenceText = new Text(REFERENCE_ROOM);
    private final Text readsText = new Text(READS_ROOM);
    private final Parser referenceParser = new Parser(referenceText);
    private final Parser readsParser = new Parser(readsText);
    private final Aligner aligner = new Aligner();
    private final Pile pile = new Pile();
    private final Judge judge = new Judge();
    private final Table table = new Table();
    private Sample shown = new Sample();
    private Sample draft = new Sample();

    public ReadCaller() {
    }

    public boolean put(int text, int word, int n) {
        Text target = textOf(text);
        return target != null && target.append(word, n);
    }

    public boolean clear(int text) {
        Text target = textOf(text);
        if (target == null) {
            return false;
        }
        target.used = 0;
        return true;
    }

    public int size(int text) {
        Text target = textOf(text);
        return target == null ? NONE : target.used;
    }

    public int call(int k) {
        if (k < 0 || k > MOST_CHANGES) {
            return NONE;
        }
        int error = referenceParser.parseReference(draft);
        if (error != NONE) {
            return REFERENCE_ERROR - error;
        }
        error = readsParser.parseReads(draft);
        if (error != NONE) {
            return READS_ERROR - error;
        }
        showDraft();
        pile.forget();
        for (int r = 0; r < shown.readCount; r++) {
            aligner.settle(shown.reads[r], shown, k);
            pile.gather(shown.reads[r]);
        }
        return reportSites();
    }

    public int reads() {
        return shown.readCount;
    }

    public int place(int r, int what) {
        if (r < 0 || r >= shown.readCount) {
            return NONE;
        }
        Read read = shown.reads[r];
        if (what == 0) {
            return read.state;
        }
        return read.state == PLACED ? read.placement(what) : NONE;
    }

    public int step(int r, int i) {
        if (r < 0 || r >= shown.readCount) {
            return 0;
        }
        return shown.reads[r].stepFromFront(i);
    }

    public int seen(int p, int b) {
        if (p < 0 || p >= shown.baseCount || b < 0 || b >= BASES) {
            return 0;
        }
        return pile.bases[p].countOf(b);
    }

    public int links(int p, int kind) {
        if (p < 0 || p >= shown.baseCount) {
            return 0;
        }
        return pile.links[p].countOfKind(kind);
    }

    public int length() {
        return table.used;
    }

    public int letter(int k) {
        return k < 0 || k >= table.used ? 0 : table.chars[k];
    }

    private Text textOf(int text) {
        if (text == 0) {
            return referenceText;
        }
        return text == 1 ? readsText : null;
    }

    /** A refused call must leave what is shown, so each call is read into the sample not shown. */
    private void showDraft() {
        Sample before = shown;
        shown = draft;
        draft = before;
    }

    private int reportSites() {
        int reported = 0;
        table.begin();
        for (int p = 0; p < shown.baseCount; p++) {
            judge.weigh(pile.bases[p], shown.bases[p]);
            if (judge.differs()) {
                table.writeBaseSite(shown, p, judge);
                reported++;
            }
            judge.weigh(pile.links[p], PLAIN);
            if (judge.differs()) {
                table.writeLinkSite(shown, p, judge);
                reported++;
            }
        }
        return reported;
    }

    /** The characters of one text. */
    private static final class Text {
        final char[] chars;
        int used = 0;

        Text(int room) {
            chars = new char[room];
        }

        boolean append(int word, int n) {
            if (n < 1 || n > 4 || used + n > chars.length) {
                return false;
            }
            for (int i = 0; i < n; i++) {
                if (!allowed(byteOf(word, i))) {
                    return false;
                }
            }
            for (int i = n - 1; i >= 0; i--) {
                chars[used] = (char) byteOf(word, i);
                used++;
            }
            return true;
        }

        private static int byteOf(int word, int i) {
            return word >>> 8 * i & 255;
        }

        private static boolean allowed(int c) {
            return c == '\n' || c >= 32 && c <= 126;
        }
    }

    /** One read: its letters and qualities, and where it was placed. */
    private static final class Read {
        final int[] letters = new int[MOST_LETTERS];
        final int[] qualities = new int[MOST_LETTERS];
        int count = 0;
        int state = LOST;
        int start = 0;
        int end = 0;
        int distance = 0;
        boolean backward = false;
        /** The script from its back to its front, as it is found. */
        final int[] steps = new int[MOST_STEPS];
        int stepCount = 0;

        int placement(int what) {
            switch (what) {
                case 1:
                    return start;
                case 2:
                    return end;
                case 3:
                    return distance;
                case 4:
                    return backward ? 1 : 0;
                default:
                    return NONE;
            }
        }

        int stepFromFront(int i) {
            return i < 0 || i >= stepCount ? 0 : steps[stepCount - 1 - i];
        }

        /** Turns the letters into those of the other strand. */
        void turn() {
            int b = count - 1;
            for (int a = 0; a <= b; a++) {
                int letter = opposite(letters[a]);
                letters[a] = opposite(letters[b]);
                letters[b] = letter;
                int quality = qualities[a];
                qualities[a] = qualities[b];
                qualities[b] = quality;
                b--;
            }
        }

        private static int opposite(int letter) {
            return letter == UNKNOWN ? UNKNOWN : 3 - letter;
        }
    }

    /** A reference and its reads, as one call read them from the texts. */
    private static final class Sample {
        final char[] name = new char[MOST_NAME];
        int nameLength = 0;
        final int[] bases = new int[MOST_BASES];
        int baseCount = 0;
        final Read[] reads = new Read[MOST_READS];
        int readCount = 0;

        Sample() {
            for (int r = 0; r < MOST_READS; r++) {
                reads[r] = new Read();
            }
        }
    }

    /** Reads a text; once something is wrong, the place stays where it is. */
    private static final class Parser {
        private static final int VISIBLE = 0;
        private static final int BASE = 1;
        private static final int LETTER = 2;

        private final Text text;
        private int at = 0;
        private boolean wrong = false;

        Parser(Text source) {
            text = source;
        }

        /** The place of the first error, or NONE. */
        int parseReference(Sample sample) {
            begin();
            expect('>');
            sample.nameLength = take(1, MOST_NAME, VISIBLE);
            for (int i = 0; i < sample.nameLength; i++) {
                sample.name[i] = taken(sample.nameLength, i);
            }
            expect('\n');
            sample.baseCount = 0;
            takeLine(sample);
            for (int line = 1; line <= MOST_BASES && !wrong && at < text.used; line++) {
                takeLine(sample);
            }
            return wrong ? at : NONE;
        }

        /** The place of the first error, or NONE. */
        int parseReads(Sample sample) {
            begin();
            sample.readCount = 0;
            while (!wrong && at < text.used && sample.readCount < MOST_READS) {
                takeRead(sample.reads[sample.readCount]);
                sample.readCount++;
            }
            return wrong || at < text.used ? at : NONE;
        }

        private void begin() {
            at = 0;
            wrong = false;
        }

        private void takeLine(Sample sample) {
            int n = take(1, MOST_BASES - sample.baseCount, BASE);
            for (int i = 0; i < n; i++) {
                sample.bases[sample.baseCount] = LETTERS.indexOf(taken(n, i));
                sample.baseCount++;
            }
            expect('\n');
        }

        private void takeRead(Read read) {
            expect('@');
            take(1, MOST_NAME, VISIBLE);
            expect('\n');
            int n = take(FEWEST_LETTERS, MOST_LETTERS, LETTER);
            for (int i = 0; i < n; i++) {
                read.letters[i] = LETTERS.indexOf(taken(n, i));
            }
            read.count = n;
            expect('\n');
            expect('+');
            expect('\n');
            n = take(n, n, VISIBLE);
            for (int i = 0; i < n; i++) {
                read.qualities[i] = taken(n, i) - 33;
            }
            expect('\n');
        }

        private void expect(char c) {
            if (!wrong && at < text.used && text.chars[at] == c) {
                at++;
            } else {
                wrong = true;
            }
        }

        /** Takes all characters of a kind that stand here, up to the most; answers how many, 0 if too few. */
        private int take(int fewest, int most, int kind) {
            int n = 0;
            while (!wrong && n < most && at < text.used && isOf(kind, text.chars[at])) {
                at++;
                n++;
            }
            if (n < fewest) {
                wrong = true;
            }
            return wrong ? 0 : n;
        }

        /** The i-th of the n characters taken last. */
        private char taken(int n, int i) {
            return text.chars[at - n + i];
        }

        private static boolean isOf(int kind, char c) {
            if (kind == VISIBLE) {
                return c >= 33 && c <= 126;
            }
            int code = LETTERS.indexOf(c);
            return code >= 0 && (kind == LETTER || code < BASES);
        }
    }

    /** Finds where a read fits best, and its script there. */
    private static final class Aligner {
        private static final int FAR = 1000;

        /** Distances of the first i letters and the first j positions, exact if not above the limit. */
        private final int[][] d = new int[MOST_LETTERS + 1][MOST_STEPS + 1];
        /** The least distance found so far; before one is found, the greatest that counts. */
        private int limit = 0;
        private boolean found = false;
        private int start = 0;
        private int end = 0;
        private boolean backward = false;
        private int leastEnd = 0;
        private int greatestStart = 0;

        /** Sets the read's state, place and script, and turns its letters if it is placed backward. */
        void settle(Read read, Sample sample, int k) {
            limit = k;
            found = false;
            search(read, sample, false);
            read.turn();
            search(read, sample, true);
            read.state = state();
            read.stepCount = 0;
            if (read.state != PLACED) {
                return;
            }
            if (!backward) {
                read.turn();
            }
            read.start = start;
            read.end = end;
            read.distance = limit;
            read.backward = backward;
            writeScript(read, sample);
        }

        private int state() {
            if (!found) {
                return LOST;
            }
            // If any two optima are apart, so are the one that ends first and the one that starts last.
            return leastEnd <= greatestStart ? DOUBTFUL : PLACED;
        }

        private void search(Read read, Sample sample, boolean turned) {
            for (int s = 0; s < sample.baseCount; s++) {
                if (fill(read, sample, s)) {
                    int first = Math.max(1, read.count - limit);
                    int last = Math.min(sample.baseCount - s, read.count + limit);
                    for (int j = first; j <= last; j++) {
                        consider(s, s + j, d[read.count][j], turned);
                    }
                }
            }
        }

        private void consider(int s, int e, int distance, boolean turned) {
            if (distance > limit) {
                return;
            }
            boolean better = !found || distance < limit;
            found = true;
            limit = distance;
            leastEnd = better ? e : Math.min(leastEnd, e);
            greatestStart = better ? s : Math.max(greatestStart, s);
            if (better || s < start || s == start && e < end) {
                start = s;
                end = e;
                backward = turned;
            }
        }

        /** Fills d for intervals from s on; false when no distance there can be within the limit. */
        private boolean fill(Read read, Sample sample, int s) {
            for (int i = 0; i <= read.count; i++) {
                if (fillRow(read, sample, s, i) > limit) {
                    return false;
                }
            }
            return true;
        }

        /** Only cells with i and j at most the limit apart can be within it; their neighbours become FAR. */
        private int fillRow(Read read, Sample sample, int s, int i) {
            int width = Math.min(sample.baseCount - s, read.count + limit);
            int from = Math.max(0, i - limit);
            int to = Math.min(width, i + limit);
            int least = FAR;
            if (from > 0) {
                d[i][from - 1] = FAR;
            }
            for (int j = from; j <= to; j++) {
                d[i][j] = distanceAt(read, sample, s, i, j);
                least = Math.min(least, d[i][j]);
            }
            if (to < width) {
                d[i][to + 1] = FAR;
            }
            return least;
        }

        private int distanceAt(Read read, Sample sample, int s, int i, int j) {
            if (i == 0 || j == 0) {
                return i + j;
            }
            int matched = d[i - 1][j - 1] + change(read, sample, s, i, j);
            return Math.min(matched, Math.min(d[i - 1][j], d[i][j - 1]) + 1);
        }

        private static int change(Read read, Sample sample, int s, int i, int j) {
            return read.letters[i - 1] == sample.bases[s + j - 1] ? 0 : 1;
        }

        private void writeScript(Read read, Sample sample) {
            fill(read, sample, read.start);
            int i = read.count;
            int j = read.end - read.start;
            while (read.stepCount < MOST_STEPS && (i > 0 || j > 0)) {
                int step = stepAt(read, sample, i, j);
                read.steps[read.stepCount] = step;
                read.stepCount++;
                if (step != LEFT_OUT) {
                    i--;
                }
                if (step != PUT_IN) {
                    j--;
                }
            }
        }

        private int stepAt(Read read, Sample sample, int i, int j) {
            if (i == 0) {
                return LEFT_OUT;
            }
            if (j == 0) {
                return PUT_IN;
            }
            if (d[i][j] == d[i - 1][j - 1] + change(read, sample, read.start, i, j)) {
                return MATCH;
            }
            return d[i][j] == d[i][j - 1] + 1 ? LEFT_OUT : PUT_IN;
        }
    }

    /** What is seen at one site: at most one thing of each read. */
    private static final class Site {
        final int[] things = new int[MOST_READS];
        final int[] qualities = new int[MOST_READS];
        int count = 0;

        void add(int thing, int quality) {
            if (count < MOST_READS) {
                things[count] = thing;
                qualities[count] = quality;
                count++;
            }
        }

        int countOf(int thing) {
            int n = 0;
            for (int i = 0; i < count; i++) {
                if (things[i] == thing) {
                    n++;
                }
            }
            return n;
        }

        /** Of a site of links. */
        int countOfKind(int kind) {
            int n = 0;
            for (int i = 0; i < count; i++) {
                if (kindOf(things[i]) == kind) {
                    n++;
                }
            }
            return n;
        }

        private static int kindOf(int link) {
            if (link == PLAIN) {
                return PLAIN_LINKS;
            }
            return link < FIRST_GAIN ? LOSSES : GAINS;
        }
    }

    /** All sites. Behind the last position nothing is ever seen; its site of links keeps the rows even. */
    private static final class Pile {
        final Site[] bases = new Site[MOST_BASES];
        final Site[] links = new Site[MOST_BASES];

        Pile() {
            for (int p = 0; p < MOST_BASES; p++) {
                bases[p] = new Site();
                links[p] = new Site();
            }
        }

        void forget() {
            for (int p = 0; p < MOST_BASES; p++) {
                bases[p].count = 0;
                links[p].count = 0;
            }
        }

        /** Adds what the read shows; one that is not placed has no steps and shows nothing. */
        void gather(Read read) {
            int i = 0;
            int p = read.start;
            int matchedLetter = NONE;
            int matchedPosition = NONE;
            int leftOut = 0;
            int putIn = NOTHING_PUT_IN;
            for (int n = 0; n < read.stepCount; n++) {
                int step = read.stepFromFront(n);
                if (step == MATCH) {
                    gatherBase(read, i, p);
                    if (matchedPosition != NONE) {
                        int quality = Math.min(read.qualities[matchedLetter], read.qualities[i]);
                        gatherLink(matchedPosition, linkOf(leftOut, putIn), quality);
                    }
                    matchedLetter = i;
                    matchedPosition = p;
                    leftOut = 0;
                    putIn = NOTHING_PUT_IN;
                    i++;
                    p++;
                } else if (step == LEFT_OUT) {
                    leftOut++;
                    p++;
                } else {
                    putIn = withLetter(putIn, read.letters[i]);
                    i++;
                }
            }
        }

        private void gatherBase(Read read, int i, int p) {
            if (read.letters[i] != UNKNOWN) {
                bases[p].add(read.letters[i], read.qualities[i]);
            }
        }

        private void gatherLink(int p, int link, int quality) {
            if (link != NO_LINK) {
                links[p].add(link, quality);
            }
        }

        private static int withLetter(int putIn, int letter) {
            return putIn == UNKNOWN_PUT_IN || letter == UNKNOWN ? UNKNOWN_PUT_IN : putIn * BASES + letter;
        }

        private static int linkOf(int leftOut, int putIn) {
            if (putIn == NOTHING_PUT_IN) {
                return leftOut;
            }
            return leftOut > 0 || putIn == UNKNOWN_PUT_IN ? NO_LINK : putIn;
        }
    }

    /** Finds the alleles of a site, the penalties of their pairs and the choice. */
    private static final class Judge {
        private static final int MOST_ALLELES = 3;
        private static final int[] FIRST_OF_PAIR = {0, 0, 1, 0, 1, 2};
        private static final int[] SECOND_OF_PAIR = {0, 1, 1, 2, 2, 2};
        private static final int ONE_OF_TWO = 3;
        private static final int ONE_OTHER = 20;
        private static final int SAME_OTHERS = 30;
        private static final int TWO_OTHERS = 40;

        final int[] alleles = new int[MOST_ALLELES];
        final int[] counts = new int[MOST_ALLELES];
        int alleleCount = 0;
        final int[] penalties = new int[FIRST_OF_PAIR.length];
        int pairCount = 0;
        int choice = 0;
        int depth = 0;

        void weigh(Site site, int reference) {
            depth = site.count;
            alleleCount = 0;
            addAllele(site, reference);
            addMostSeen(site);
            addMostSeen(site);
            pairCount = alleleCount * (alleleCount + 1) / 2;
            choice = 0;
            for (int i = 0; i < pairCount; i++) {
                penalties[i] = penalty(site, FIRST_OF_PAIR[i], SECOND_OF_PAIR[i]);
                if (penalties[i] < penalties[choice]) {
                    choice = i;
                }
            }
        }

        boolean differs() {
            return choice != 0;
        }

        int firstChosen() {
            return FIRST_OF_PAIR[choice];
        }

        int secondChosen() {
            return SECOND_OF_PAIR[choice];
        }

        /** How much worse a pair is than the choice. */
        int excess(int pair) {
            return penalties[pair] - penalties[choice];
        }

        private void addAllele(Site site, int thing) {
            alleles[alleleCount] = thing;
            counts[alleleCount] = site.countOf(thing);
            alleleCount++;
        }

        private void addMostSeen(Site site) {
            int best = NONE;
            int most = 0;
            for (int i = 0; i < site.count; i++) {
                int thing = site.things[i];
                int n = site.countOf(thing);
                if (!isAllele(thing) && (n > most || n == most && thing < best)) {
                    best = thing;
                    most = n;
                }
            }
            if (best != NONE) {
                addAllele(site, best);
            }
        }

        private boolean isAllele(int thing) {
            for (int a = 0; a < alleleCount; a++) {
                if (alleles[a] == thing) {
                    return true;
                }
            }
            return false;
        }

        private int penalty(Site site, int a, int b) {
            int sum = costOfPair(a, b);
            for (int i = 0; i < site.count; i++) {
                boolean isFirst = site.things[i] == alleles[a];
                boolean isSecond = site.things[i] == alleles[b];
                if (isFirst != isSecond) {
                    sum += ONE_OF_TWO;
                } else if (!isFirst) {
                    sum += site.qualities[i];
                }
            }
            return sum;
        }

        private static int costOfPair(int a, int b) {
            if (a == 0) {
                return b == 0 ? 0 : ONE_OTHER;
            }
            return a == b ? SAME_OTHERS : TWO_OTHERS;
        }
    }

    /** The text of the differences. */
    private static final class Table {
        private static final String FIRST_LINES =
            "##fileformat=VCFv4.3\n#CHROM\tPOS\tID\tREF\tALT\tQUAL\tFILTER\tINFO\tFORMAT\tS\n";
        /** Each reported site takes at least one of the changes that a read may have. */
        private static final int MOST_LINES = MOST_READS * MOST_CHANGES;
        private static final int LONGEST_LINE = 90;
        private static final int FIRST_LINES_LENGTH = 69;
        private static final int MOST_QUALITY = 999;
        private static final int MOST_EXCESS = 255;

        final char[] chars = new char[FIRST_LINES_LENGTH + MOST_LINES * LONGEST_LINE];
        int used = 0;

        void begin() {
            used = 0;
            writeText(FIRST_LINES);
        }

        void writeBaseSite(Sample sample, int p, Judge judge) {
            writePosition(sample, p);
            write(LETTERS.charAt(judge.alleles[0]));
            write('\t');
            for (int a = 1; a < judge.alleleCount; a++) {
                writeComma(a > 1);
                write(LETTERS.charAt(judge.alleles[a]));
            }
            writeJudgement(judge);
        }

        void writeLinkSite(Sample sample, int p, Judge judge) {
            int n = greatestLoss(judge);
            writePosition(sample, p);
            writeBases(sample, p, p + n);
            write('\t');
            for (int a = 1; a < judge.alleleCount; a++) {
                writeComma(a > 1);
                writeLink(sample, p, n, judge.alleles[a]);
            }
            writeJudgement(judge);
        }

        private static int greatestLoss(Judge judge) {
            int n = 0;
            for (int a = 1; a < judge.alleleCount; a++) {
                if (judge.alleles[a] < FIRST_GAIN) {
                    n = Math.max(n, judge.alleles[a]);
                }
            }
            return n;
        }

        private void writePosition(Sample sample, int p) {
            for (int i = 0; i < sample.nameLength; i++) {
                write(sample.name[i]);
            }
            write('\t');
            writeNumber(p + 1);
            writeText("\t.\t");
        }

        private void writeLink(Sample sample, int p, int n, int link) {
            writeBases(sample, p, p);
            if (link < FIRST_GAIN) {
                writeBases(sample, p + link + 1, p + n);
            } else {
                writeGain(link);
                writeBases(sample, p + 1, p + n);
            }
        }

        /** The digits of base 4 behind the leading 1. */
        private void writeGain(int gain) {
            int unit = 1;
            while (unit * BASES <= gain && unit < 1 << 2 * MOST_CHANGES) {
                unit *= BASES;
            }
            for (int rest = unit / BASES; rest > 0; rest /= BASES) {
                write(LETTERS.charAt(gain / rest % BASES));
            }
        }

        private void writeBases(Sample sample, int from, int to) {
            for (int p = from; p <= to && p < sample.baseCount; p++) {
                write(LETTERS.charAt(sample.bases[p]));
            }
        }

        private void writeJudgement(Judge judge) {
            write('\t');
            writeNumber(Math.min(MOST_QUALITY, judge.excess(0)));
            writeText("\t.\t.\tGT:DP:AD:PL\t");
            writeNumber(judge.firstChosen());
            write('/');
            writeNumber(judge.secondChosen());
            write(':');
            writeNumber(judge.depth);
            write(':');
            for (int a = 0; a < judge.alleleCount; a++) {
                writeComma(a > 0);
                writeNumber(judge.counts[a]);
            }
            write(':');
            for (int i = 0; i < judge.pairCount; i++) {
                writeComma(i > 0);
                writeNumber(Math.min(MOST_EXCESS, judge.excess(i)));
            }
            write('\n');
        }

        private void writeComma(boolean wanted) {
            if (wanted) {
                write(',');
            }
        }

        private void writeNumber(int number) {
            int unit = 1;
            while (unit <= number / 10 && unit < 1000) {
                unit *= 10;
            }
            for (int rest = unit; rest > 0; rest /= 10) {
                write((char) ('0' + number / rest % 10));
            }
        }

        private void writeText(String text) {
            for (int i = 0; i < text.length(); i++) {
                write(text.charAt(i));
            }
        }

        private void write(char c) {
            if (used < chars.length) {
                chars[used] = c;
                used++;
            }
        }
    }
}
