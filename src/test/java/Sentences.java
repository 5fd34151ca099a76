import java.io.IOException;
import java.io.UncheckedIOException;
import java.nio.file.Files;
import java.nio.file.Path;

/** What the tests by hand share: the sentence that is tested, the answers that are due, the TAPE. */
abstract class Sentences {
    static final int NONE = FilmPrinter.NONE;
    static final int NOTHING = -1000;
    static final int MIN = Integer.MIN_VALUE;
    static final int MAX = Integer.MAX_VALUE;

    /* The TERMS, numbered as terms() numbers them. */
    static final int GAIN = 0;
    static final int WITHIN = 1;
    static final int FAULTY = 2;
    static final int SLACK = 3;
    static final int AHEAD = 4;
    static final int SEAM = 5;
    static final int LOUD = 6;

    private static final String DOCUMENT = document();
    private static String sentence = "";
    private static int sentences = 0;
    private static int answersOfSentence = 0;
    private static int answers = 0;
    private static int wrong = 0;

    /** All that comes behind tests these words, which the document has to the letter (but for blanks). */
    static void sentence(String words) {
        closeSentence();
        sentence = words;
        sentences++;
        answersOfSentence = 0;
        if (DOCUMENT != null && !DOCUMENT.contains(words)) {
            say("the document does not say so");
        }
    }

    static void due(String call, int got, int want) {
        answers++;
        answersOfSentence++;
        if (got != want) {
            say(call + " answered " + got + ", due is " + want);
        }
    }

    /** The same call for 0, 1, .. in turn, told as a row. */
    static void dueRow(String call, int[] got, int... want) {
        due("how many of " + call, got.length, want.length);
        for (int k = 0; k < got.length && k < want.length; k++) {
            due(call + " number " + k, got[k], want[k]);
        }
    }

    static void finish() {
        closeSentence();
        System.out.println(wrong == 0 ? answers + " answers are as due" : wrong + " answers are not as due");
        if (wrong != 0) {
            System.exit(1);
        }
    }

    private static void closeSentence() {
        if (sentences > 0 && answersOfSentence < 2) {
            say("a boundary has two sides: two answers at least");
        }
    }

    private static void say(String what) {
        wrong++;
        System.out.println(sentence.isEmpty() ? what : "'" + sentence + "': " + what);
    }

    /** null, if it can't be read here: then no sentence is looked up in it. */
    private static String document() {
        Path path = Path.of("../shared/DOC.md");
        if (!Files.isReadable(path)) {
            return null;
        }
        try {
            return Files.readString(path).replaceAll("\\s+", " ");
        } catch (IOException e) {
            throw new UncheckedIOException(e);
        }
    }

    /** The TAPE becomes just these bytes. */
    static void tape(FilmPrinter x, int... bytes) {
        x.end(0);
        for (int at = 0; at < bytes.length; at += 20) {
            int[] w = new int[5];
            for (int k = 0; k < 20; k++) {
                w[k / 4] = w[k / 4] << 8 | (at + k < bytes.length ? bytes[at + k] : 0);
            }
            x.feed(w[0], w[1], w[2], w[3], w[4]);
        }
        x.end(bytes.length);
    }

    static void tape(FilmPrinter x, String text) {
        tape(x, text.chars().toArray());
    }

    static int law(FilmPrinter x, String text) {
        tape(x, text);
        return x.law();
    }

    static int see(FilmPrinter x, int... greys) {
        tape(x, greys);
        return x.see();
    }

    static int copy(FilmPrinter x, int copy, int... bytes) {
        tape(x, bytes);
        return x.copy(copy);
    }

    /** A film of SHOTS of one FRAME each, with these GREYS. */
    static FilmPrinter greys(int... greys) {
        FilmPrinter x = new FilmPrinter();
        for (int grey : greys) {
            x.shot(1, grey, 0, 0, 0, 0);
        }
        return x;
    }

    /** A film of SHOTS with these LENGTHS, all of GREY 100; their KINDS are 0, 1, .. by turns. */
    static FilmPrinter lengths(int... lengths) {
        FilmPrinter x = new FilmPrinter();
        for (int n = 0; n < lengths.length; n++) {
            x.shot(lengths[n], 100, 0, n % 8, 0, 0);
        }
        return x;
    }

    static int[] row(int length, int value) {
        int[] row = new int[length];
        java.util.Arrays.fill(row, value);
        return row;
    }

    static int[] printed(FilmPrinter x, int land) {
        int[] row = new int[x.edition(land, 0)];
        for (int place = 0; place < row.length; place++) {
            row[place] = x.printed(land, place);
        }
        return row;
    }

    static int[] heard(FilmPrinter x, int land) {
        int[] row = new int[x.edition(land, 0)];
        for (int place = 0; place < row.length; place++) {
            row[place] = x.heard(land, place);
        }
        return row;
    }

    static int[] jumps(FilmPrinter x, int land) {
        int[] row = new int[x.jump(land, NONE)];
        for (int i = 0; i < row.length; i++) {
            row[i] = x.jump(land, i);
        }
        return row;
    }

    static int[] matched(FilmPrinter x, int copy) {
        int[] row = new int[x.count(4 + copy)];
        for (int k = 0; k < row.length; k++) {
            row[k] = x.matched(copy, k);
        }
        return row;
    }

    static int[] from(FilmPrinter x) {
        int[] row = new int[x.count(1)];
        for (int frame = 0; frame < row.length; frame++) {
            row[frame] = x.from(frame);
        }
        return row;
    }
}
