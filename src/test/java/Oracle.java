import java.util.ArrayList;
import java.util.Collections;
import java.util.Comparator;
import java.util.List;
import java.util.regex.Matcher;
import java.util.regex.Pattern;

/** What the document asks for, written slowly and in another way than the program. */
final class Oracle {
    private static final Pattern REFERENCE = Pattern.compile(">[!-~]{1,8}\n(?:[ACGT]\n?){0,47}[ACGT]\n");
    private static final Pattern READS = Pattern.compile("(?:@[!-~]{1,8}\n(?:" + oneReadOfEachLength() + ")\n){0,8}");

    /** One thing seen: "A" .. "T" at a site of bases; "=", "-n" or "+w" at a site of links. */
    record Seen(String thing, int quality) {
    }

    /** An interval and a direction with its distance. */
    record Fit(int distance, int s, int e, boolean backward) {
    }

    /** A read as it was placed; fit is null unless it was. */
    record Placed(int state, Fit fit, String script) {
    }

    final String name;
    final String bases;
    final List<Placed> reads = new ArrayList<>();
    final List<List<Seen>> baseSites = new ArrayList<>();
    final List<List<Seen>> linkSites = new ArrayList<>();
    int reported = 0;
    final StringBuilder table = new StringBuilder(Reads.FIRST_LINES);

    /** Of texts without error. */
    Oracle(String reference, String readsText, int k) {
        String[] lines = reference.split("\n");
        name = lines[0].substring(1);
        bases = reference.substring(reference.indexOf('\n')).replace("\n", "");
        for (int p = 0; p < bases.length(); p++) {
            baseSites.add(new ArrayList<>());
            linkSites.add(new ArrayList<>());
        }
        String[] parts = readsText.isEmpty() ? new String[0] : readsText.split("\n");
        for (int i = 0; i < parts.length; i += 4) {
            addRead(parts[i + 1], parts[i + 3], k);
        }
        for (int p = 0; p < bases.length(); p++) {
            writeSite(p, baseSites.get(p), bases.substring(p, p + 1), false);
            if (p < bases.length() - 1) {
                writeSite(p, linkSites.get(p), "=", true);
            }
        }
    }

    static int answer(String reference, String reads, int k) {
        if (k < 0 || k > 3) {
            return -1;
        }
        int error = firstError(REFERENCE, reference);
        if (error >= 0) {
            return -1000 - error;
        }
        error = firstError(READS, reads);
        return error >= 0 ? -2000 - error : new Oracle(reference, reads, k).reported;
    }

    /** The length of the longest beginning that some right text has, or -1 if the text is right. */
    private static int firstError(Pattern pattern, String text) {
        for (int n = 0; n <= text.length(); n++) {
            Matcher matcher = pattern.matcher(text.substring(0, n));
            boolean right = matcher.matches();
            if (n == text.length() && right) {
                return -1;
            }
            if (!right && !matcher.hitEnd()) {
                return n - 1;
            }
        }
        return text.length();
    }

    private static String oneReadOfEachLength() {
        StringBuilder text = new StringBuilder();
        for (int n = 4; n <= 16; n++) {
            text.append(n > 4 ? "|" : "").append("[ACGTN]{" + n + "}\n\\+\n[!-~]{" + n + "}");
        }
        return text.toString();
    }

    private void addRead(String letters, String qualities, int k) {
        List<Fit> optima = optima(letters, k);
        boolean apart = false;
        for (Fit a : optima) {
            for (Fit b : optima) {
                apart |= a.e() <= b.s();
            }
        }
        if (optima.isEmpty() || apart) {
            reads.add(new Placed(optima.isEmpty() ? 1 : 2, null, ""));
            return;
        }
        Comparator<Fit> order = Comparator.comparingInt(Fit::s);
        Fit fit = Collections.min(optima, order.thenComparingInt(Fit::e).thenComparing(Fit::backward));
        String turned = fit.backward() ? Reads.opposite(letters) : letters;
        String worth = fit.backward() ? new StringBuilder(qualities).reverse().toString() : qualities;
        String script = script(turned, bases.substring(fit.s(), fit.e()));
        reads.add(new Placed(0, fit, script));
        gather(turned, worth, fit.s(), script);
    }

    private List<Fit> optima(String letters, int k) {
        List<Fit> all = new ArrayList<>();
        for (int s = 0; s < bases.length(); s++) {
            int[][] forward = distances(letters, bases.substring(s));
            int[][] backward = distances(Reads.opposite(letters), bases.substring(s));
            for (int e = s + 1; e <= bases.length(); e++) {
                all.add(new Fit(forward[letters.length()][e - s], s, e, false));
                all.add(new Fit(backward[letters.length()][e - s], s, e, true));
            }
        }
        int least = Collections.min(all, Comparator.comparingInt(Fit::distance)).distance();
        all.removeIf(fit -> fit.distance() > least || fit.distance() > k);
        return all;
    }

    private static int[][] distances(String a, String b) {
        int[][] d = new int[a.length() + 1][b.length() + 1];
        for (int i = 0; i <= a.length(); i++) {
            for (int j = 0; j <= b.length(); j++) {
                int least = i == 0 && j == 0 ? 0 : Integer.MAX_VALUE;
                least = i > 0 ? Math.min(least, d[i - 1][j] + 1) : least;
                least = j > 0 ? Math.min(least, d[i][j - 1] + 1) : least;
                if (i > 0 && j > 0) {
                    least = Math.min(least, d[i - 1][j - 1] + (a.charAt(i - 1) == b.charAt(j - 1) ? 0 : 1));
                }
                d[i][j] = least;
            }
        }
        return d;
    }

    private static String script(String letters, String interval) {
        int[][] d = distances(letters, interval);
        StringBuilder text = new StringBuilder();
        int i = letters.length();
        int j = interval.length();
        while (i > 0 || j > 0) {
            int way;
            if (i > 0 && j > 0
                && d[i][j] == d[i - 1][j - 1] + (letters.charAt(i - 1) == interval.charAt(j - 1) ? 0 : 1)) {
                way = 1;
            } else if (j > 0 && d[i][j] == d[i][j - 1] + 1) {
                way = 2;
            } else {
                way = 3;
            }
            text.append(way);
            i -= way == 2 ? 0 : 1;
            j -= way == 3 ? 0 : 1;
        }
        return text.reverse().toString();
    }

    private void gather(String letters, String qualities, int s, String script) {
        int[] letterOf = new int[script.length()];
        int[] positionOf = new int[script.length()];
        int i = 0;
        int p = s;
        int last = -1;
        for (int n = 0; n < script.length(); n++) {
            letterOf[n] = i;
            positionOf[n] = p;
            if (script.charAt(n) == '1') {
                if (letters.charAt(i) != 'N') {
                    baseSites.get(p).add(new Seen(letters.substring(i, i + 1), qualities.charAt(i) - 33));
                }
                if (last >= 0) {
                    int left = p - positionOf[last] - 1;
                    String w = letters.substring(letterOf[last] + 1, i);
                    int quality = Math.min(qualities.charAt(letterOf[last]), qualities.charAt(i)) - 33;
                    gatherLink(linkSites.get(positionOf[last]), left, w, quality);
                }
                last = n;
            }
            i += script.charAt(n) == '2' ? 0 : 1;
            p += script.charAt(n) == '3' ? 0 : 1;
        }
    }

    private static void gatherLink(List<Seen> site, int left, String w, int quality) {
        if (left == 0 && w.isEmpty()) {
            site.add(new Seen("=", quality));
        } else if (w.isEmpty()) {
            site.add(new Seen("-" + left, quality));
        } else if (left == 0 && w.indexOf('N') < 0) {
            site.add(new Seen("+" + w, quality));
        }
    }

    static int often(List<Seen> site, String thing) {
        int n = 0;
        for (Seen seen : site) {
            n += seen.thing().equals(thing) ? 1 : 0;
        }
        return n;
    }

    /** How many things at a site begin with a character. */
    static int oftenOfKind(List<Seen> site, char kind) {
        int n = 0;
        for (Seen seen : site) {
            n += seen.thing().charAt(0) == kind ? 1 : 0;
        }
        return n;
    }

    private static List<String> alleles(List<Seen> site, String reference) {
        List<String> others = new ArrayList<>();
        for (Seen seen : site) {
            if (!seen.thing().equals(reference) && !others.contains(seen.thing())) {
                others.add(seen.thing());
            }
        }
        Comparator<String> order = Comparator.comparingInt(thing -> -often(site, thing));
        order = order.thenComparingInt(thing -> thing.charAt(0) == '+' ? 1 : 0);
        order = order.thenComparingInt(String::length).thenComparing(Comparator.naturalOrder());
        others.sort(order);
        List<String> alleles = new ArrayList<>();
        alleles.add(reference);
        alleles.addAll(others.subList(0, Math.min(2, others.size())));
        return alleles;
    }

    private static int penalty(List<Seen> site, String a, String b, String reference) {
        int sum = 40;
        if (a.equals(reference) && b.equals(reference)) {
            sum = 0;
        } else if (a.equals(reference) || b.equals(reference)) {
            sum = 20;
        } else if (a.equals(b)) {
            sum = 30;
        }
        for (Seen seen : site) {
            boolean isA = seen.thing().equals(a);
            boolean isB = seen.thing().equals(b);
            sum += isA && isB ? 0 : isA || isB ? 3 : seen.quality();
        }
        return sum;
    }

    private void writeSite(int p, List<Seen> site, String reference, boolean ofLinks) {
        List<String> alleles = alleles(site, reference);
        List<String> pairs = new ArrayList<>();
        List<Integer> penalties = new ArrayList<>();
        for (int b = 0; b < alleles.size(); b++) {
            for (int a = 0; a <= b; a++) {
                pairs.add(a + "/" + b);
                penalties.add(penalty(site, alleles.get(a), alleles.get(b), reference));
            }
        }
        int least = Collections.min(penalties);
        String choice = pairs.get(penalties.indexOf(least));
        if (choice.equals("0/0")) {
            return;
        }
        reported++;
        List<String> shown = ofLinks ? linkTexts(p, alleles) : alleles;
        List<String> counts = new ArrayList<>();
        List<String> excesses = new ArrayList<>();
        alleles.forEach(thing -> counts.add("" + often(site, thing)));
        penalties.forEach(penalty -> excesses.add("" + Math.min(255, penalty - least)));
        String depth = "" + site.size();
        String sample = String.join(":", choice, depth, String.join(",", counts), String.join(",", excesses));
        String alt = String.join(",", shown.subList(1, shown.size()));
        String quality = "" + Math.min(999, penalties.get(0) - least);
        table.append(String.join("\t", name, "" + (p + 1), ".", shown.get(0), alt, quality, ".", ".",
            "GT:DP:AD:PL", sample)).append('\n');
    }

    private List<String> linkTexts(int p, List<String> alleles) {
        int n = 0;
        for (String thing : alleles) {
            n = thing.charAt(0) == '-' ? Math.max(n, Integer.parseInt(thing.substring(1))) : n;
        }
        String base = bases.substring(p, p + 1);
        String behind = bases.substring(p + 1, p + 1 + n);
        List<String> texts = new ArrayList<>();
        for (String thing : alleles) {
            switch (thing.charAt(0)) {
                case '-' -> texts.add(base + behind.substring(Integer.parseInt(thing.substring(1))));
                case '+' -> texts.add(base + thing.substring(1) + behind);
                default -> texts.add(base + behind);
            }
        }
        return texts;
    }
}
