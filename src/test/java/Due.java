import java.io.IOException;
import java.nio.file.Files;
import java.nio.file.Path;

/** Compares answers with those that are due, for tests that have a main method of their own. */
final class Due {
    private final String name;
    private String sentence = "";
    private int sentences = 0;
    private int askedOfSentence = 1;
    private int asked = 0;
    private int wrong = 0;
    private String document = null;

    Due(String name) {
        this.name = name;
    }

    /** What follows, up to the next sentence, tests this one: the document's own words, which have to be in it. */
    void sentence(String words) {
        endSentence();
        if (!document().contains(words)) {
            wrong++;
            System.out.println(name + ": not in the document: " + words);
        }
        sentence = " [" + words + "]";
        sentences++;
        askedOfSentence = 0;
    }

    private String document() {
        if (document == null) {
            try {
                document = Files.readString(Path.of("../shared/DOC.md")).replaceAll("\\s+", " ");
            } catch (IOException e) {
                document = "";
            }
        }
        return document;
    }

    private void endSentence() {
        if (askedOfSentence == 0) {
            wrong++;
            System.out.println(name + sentence + ": nothing was tested");
        }
    }

    void is(String call, long got, long want) {
        asked++;
        askedOfSentence++;
        if (got != want) {
            wrong++;
            System.out.println(name + sentence + ": " + call + " answered " + got + ", due is " + want);
        }
    }

    void holds(String what, boolean it) {
        is(what, it ? 1 : 0, 1);
    }

    /** Each of several answers of one call, by the number of its last argument. */
    void are(String call, long[] got, long... want) {
        is(call + ": how many", got.length, want.length);
        for (int i = 0; i < Math.min(got.length, want.length); i++) {
            is(call + " [" + i + "]", got[i], want[i]);
        }
    }

    void end() {
        endSentence();
        System.out.println(name + ": " + asked + " answers" + (sentences == 0 ? "" : " to " + sentences + " sentences")
            + ", " + wrong + " not as due");
        if (wrong != 0 || asked == 0) {
            System.exit(1);
        }
    }

    static void feed(SlewRails x, String text) {
        for (int i = 0; i < text.length(); i++) {
            x.feed(text.charAt(i));
        }
    }

    static int read(SlewRails x, String text) {
        feed(x, text);
        return x.rail();
    }

    static SlewRails of(String text) {
        SlewRails x = new SlewRails();
        read(x, text);
        return x;
    }

    static long[] pegs(SlewRails x, int what) {
        long[] all = new long[x.count(1)];
        for (int p = 0; p < all.length; p++) {
            all[p] = x.peg(p, what);
        }
        return all;
    }

    static long[] trace(SlewRails x) {
        int n = 0;
        while (n < 20 && x.trace(n) != SlewRails.NONE) {
            n++;
        }
        long[] all = new long[n];
        for (int i = 0; i < n; i++) {
            all[i] = x.trace(i);
        }
        return all;
    }

    /**
     * An ITEM (0 to 60) of a ROW: no call gives one, but fits() tells by which VERSINE PEG 0 would have it NOW.
     * ROW 7 is used up; a RAIL is there, and its PEGS 0 and 1 have no SLEW.
     */
    static long item(SlewRails x, int row, int lane, int i) {
        x.row(7, lane, 1);
        x.copy(row, i, 7, 0, 1);
        return x.fits(0, 7, 1, 2);
    }

    static long[] items(SlewRails x, int row, int lane, int n) {
        long[] all = new long[n];
        for (int i = 0; i < n; i++) {
            all[i] = item(x, row, lane, i);
        }
        return all;
    }
}
