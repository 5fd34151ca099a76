/** The boundaries that the document names for SHOTS, TERMS, refusals and counts: Terms I, promises 1 to 4, 31, 32. */
public final class ShotBoundariesTest extends Sentences {
    private static final int[] LOWEST = {1, 0, -9, 0, 0, 0};
    private static final int[] HIGHEST = {40, 255, 9, 7, 100, 40};

    public static void main(String[] args) {
        newObject();
        numberOfShots();
        numbersOfAShot();
        greysOfFrames();
        negative();
        toldOfAShot();
        orderOfRefusals();
        refusedShots();
        termsWithin();
        termsThatAreNot();
        counts();
        statusAheadOfAny();
        statusOfEach();
        statusOfOthers();
        finish();
    }

    private static void newObject() {
        sentence("No SHOTS, no LAW.");
        FilmPrinter x = new FilmPrinter();
        due("count(0)", x.count(0), 0);
        due("count(1)", x.count(1), 0);
        due("count(2)", x.count(2), 0);
        due("of(0, 0)", x.of(0, 0), NOTHING);
        due("asks(0, 0, 0)", x.asks(0, 0, 0), NONE);
        due("edition(0, 0)", x.edition(0, 0), 0);
        due("edition(0, 1)", x.edition(0, 1), 0);
        due("place(0, 0, 0)", x.place(0, 0, 0), NONE);
        due("printed(0, 0)", x.printed(0, 0), NONE);
        due("heard(0, 0)", x.heard(0, 0), NONE);
        due("jump(0, NONE)", x.jump(0, NONE), 0);
        due("jump(0, 0)", x.jump(0, 0), NONE);
        due("sound(0, 0)", x.sound(0, 0), 0);
        due("sound(0, 1)", x.sound(0, 1), 0);
        due("from(0)", x.from(0), NONE);
        for (int what = 0; what <= 4; what++) {
            due("one(" + what + ")", x.one(what), 0);
        }
        due("the first shot", x.shot(1, 0, 0, 0, 0, 0), 0);
        due("count(0)", x.count(0), 1);
    }

    private static void numberOfShots() {
        sentence("SHOTS 0 .. 15 (16 at most)");
        FilmPrinter x = new FilmPrinter();
        for (int n = 0; n <= 15; n++) {
            due("shot " + n, x.shot(n + 1, n, 0, 0, 0, 0), n);
            due("status", x.status(), 0);
        }
        due("the 17th", x.shot(1, 0, 0, 0, 0, 0), -5);
        due("status", x.status(), -5);
        due("count(0)", x.count(0), 16);
        due("count(1)", x.count(1), 16 * 17 / 2);
        due("of(15, 0)", x.of(15, 0), 16);
        due("of(16, 0)", x.of(16, 0), NOTHING);
        due("asks(15, 0, 0)", x.asks(15, 0, 0), 20);
        due("asks(16, 0, 0)", x.asks(16, 0, 0), NONE);
        due("asks(-1, 0, 0)", x.asks(-1, 0, 0), NONE);
        due("the 17th again", x.shot(1, 0, 0, 0, 0, 0), -5);
    }

    private static int shotWith(FilmPrinter x, int what, int number) {
        int[] a = {5, 6, 4, 3, 8, 9};
        a[what] = number;
        return x.shot(a[0], a[1], a[2], a[3], a[4], a[5]);
    }

    private static void numbersOfAShot() {
        String[] words = {"LENGTH 1 .. 40 FRAMES", "GREY 0 .. 255", "STEP -9 .. 9", "KIND 0 .. 7", "SOUND 0 .. 100",
            "SHRINK 0 .. 40"};
        for (int what = 0; what < words.length; what++) {
            sentence(words[what]);
            for (int off : new int[] {LOWEST[what] - 1, HIGHEST[what] + 1, MIN, MAX}) {
                FilmPrinter x = new FilmPrinter();
                due("shot with " + off, shotWith(x, what, off), -1);
                due("status", x.status(), -1);
                due("count(0)", x.count(0), 0);
                due("count(1)", x.count(1), 0);
            }
            for (int fine : new int[] {LOWEST[what], HIGHEST[what]}) {
                FilmPrinter x = new FilmPrinter();
                due("shot with " + fine, shotWith(x, what, fine), 0);
                due("status", x.status(), 0);
                due("what it has", x.of(0, what), fine);
            }
        }
        sentence("LENGTH 1 .. 40 FRAMES");
        FilmPrinter x = new FilmPrinter();
        x.shot(1, 0, 0, 0, 0, 0);
        due("FRAMES of the shortest", x.count(1), 1);
        x.shot(40, 0, 0, 0, 0, 0);
        due("FRAMES of the longest too", x.count(1), 41);
        due("PLACES", x.edition(0, 0), 41);
    }

    private static void greysOfFrames() {
        sentence("Its j-th FRAME (from 0 on) has the GREY and j times STEP, 0 .. 255 (else the nearest).");
        FilmPrinter x = new FilmPrinter();
        x.shot(4, 237, 9, 0, 0, 0);
        dueRow("up to 255 itself", printed(x, 0), 237, 246, 255, 255);
        x = new FilmPrinter();
        x.shot(4, 238, 9, 0, 0, 0);
        dueRow("up to 256", printed(x, 0), 238, 247, 255, 255);
        x = new FilmPrinter();
        x.shot(4, 18, -9, 0, 0, 0);
        dueRow("down to 0 itself", printed(x, 0), 18, 9, 0, 0);
        x = new FilmPrinter();
        x.shot(4, 17, -9, 0, 0, 0);
        dueRow("down to -1", printed(x, 0), 17, 8, 0, 0);
        x = new FilmPrinter();
        x.shot(40, 0, 9, 0, 0, 0);
        due("28 times 9", x.printed(0, 28), 252);
        due("29 times 9 is beyond", x.printed(0, 29), 255);
        due("39 times 9 is beyond", x.printed(0, 39), 255);
        x = new FilmPrinter();
        x.shot(40, 255, -9, 0, 0, 0);
        due("28 times -9", x.printed(0, 28), 3);
        due("29 times -9 is below", x.printed(0, 29), 0);
        due("39 times -9 is below", x.printed(0, 39), 0);
        x = new FilmPrinter();
        x.shot(3, 255, 0, 0, 0, 0);
        x.shot(3, 0, 0, 0, 0, 0);
        dueRow("no STEP", printed(x, 0), 255, 255, 255, 0, 0, 0);
    }

    private static void negative() {
        sentence("The NEGATIVE: the FRAMES of all SHOTS in order, by numbers from 0 on.");
        FilmPrinter x = new FilmPrinter();
        x.shot(2, 10, 1, 0, 0, 0);
        x.shot(1, 20, 1, 1, 0, 0);
        x.shot(2, 30, 1, 2, 0, 0);
        due("first FRAME of 0", x.of(0, 6), 0);
        due("first FRAME of 1", x.of(1, 6), 2);
        due("first FRAME of 2", x.of(2, 6), 3);
        due("FRAME at 0", x.place(0, 0, 1), 0);
        due("FRAME at 4", x.place(0, 4, 1), 4);
        law(x, "cut if kind=1");
        due("a CUT one has FRAMES still", x.count(1), 5);
        due("a CUT one has FRAMES still", x.of(2, 6), 3);
        due("FRAME over the CUT one", x.place(0, 2, 1), 3);
        FilmPrinter y = new FilmPrinter();
        for (int n = 0; n < 16; n++) {
            y.shot(40, 0, 0, 0, 0, 0);
        }
        due("the most FRAMES", y.count(1), 640);
        due("first FRAME of the last", y.of(15, 6), 600);
        due("the last FRAME", y.place(0, 639, 1), 639);
        due("none behind", y.place(0, 640, 1), NONE);
    }

    private static void toldOfAShot() {
        sentence("Of a SHOT 0 LENGTH, 1 GREY, 2 STEP, 3 KIND, 4 SOUND, 5 SHRINK, 6 its first FRAME's number. "
                + "NOTHING (-1000) without.");
        FilmPrinter x = new FilmPrinter();
        due("of(0, 0) without SHOTS", x.of(0, 0), NOTHING);
        x.shot(2, 11, -3, 4, 55, 16);
        x.shot(7, 22, 5, 6, 77, 28);
        int[] first = {2, 11, -3, 4, 55, 16, 0};
        int[] second = {7, 22, 5, 6, 77, 28, 2};
        for (int what = 0; what <= 6; what++) {
            due("of(0, " + what + ")", x.of(0, what), first[what]);
            due("of(1, " + what + ")", x.of(1, what), second[what]);
            due("of(2, " + what + ")", x.of(2, what), NOTHING);
            due("of(-1, " + what + ")", x.of(-1, what), NOTHING);
        }
        for (int what : new int[] {-1, 7, MIN, MAX}) {
            due("of(0, " + what + ")", x.of(0, what), NOTHING);
            due("of(1, " + what + ")", x.of(1, what), NOTHING);
        }
        due("of(MIN, 0)", x.of(MIN, 0), NOTHING);
        due("of(MAX, 6)", x.of(MAX, 6), NOTHING);
    }

    private static void orderOfRefusals() {
        sentence("The first of these in that order.");
        FilmPrinter x = new FilmPrinter();
        for (int n = 0; n < 16; n++) {
            x.shot(1, 0, 0, 0, 0, 0);
        }
        for (int what = 0; what < 6; what++) {
            due("shot: -1 ahead of -5", shotWith(x, what, HIGHEST[what] + 1), -1);
            due("shot: -5", shotWith(x, what, HIGHEST[what]), -5);
        }
        for (int n = 0; n < 20; n++) {
            x.pair(0, n, 0);
        }
        due("pair: -1 ahead of -5, by what is right", x.pair(0, 20, 256), -1);
        due("pair: -1 ahead of -5, by what is SEEN", x.pair(0, 256, 0), -1);
        due("pair: -5", x.pair(0, 20, 0), -5);
        for (int n = 0; n < 4; n++) {
            copy(x, 0, new int[n < 3 ? 400 : 80]);
        }
        due("copy: -6", x.copy(0), -6);
        due("copy: -1 ahead of -6", x.copy(2), -1);
        due("copy: -5", copy(x, 0, 0, 0), -5);
        due("copy: -1 ahead of -5", copy(x, -1, 0, 0), -1);
        due("back: -2", x.back(0), -2);
        due("back: -1 ahead of -2", x.back(2), -1);
        due("back: -1 ahead of -2", x.back(-1), -1);
    }

    private static void refusedShots() {
        sentence("A SHOT: its number. -1; -5.");
        FilmPrinter x = new FilmPrinter();
        due("the first", x.shot(3, 10, 1, 2, 30, 4), 0);
        due("refused", x.shot(3, 10, 1, 8, 30, 4), -1);
        due("the number behind the refused one", x.shot(5, 20, 2, 3, 40, 5), 1);
        due("FRAMES", x.count(1), 8);
        due("first FRAME", x.of(1, 6), 3);
        for (int n = 2; n < 16; n++) {
            x.shot(1, 0, 0, 0, 0, 0);
        }
        due("no room", x.shot(9, 99, 9, 7, 99, 9), -5);
        due("FRAMES as they were", x.count(1), 22);
        due("the last one as it was", x.of(15, 0), 1);
        due("PLACES as they were", x.edition(0, 0), 22);
    }

    private static void termsWithin() {
        String[] words = {"0 GAIN 0 .. 20 (4 at first)", "1 WITHIN 0 .. 50 (3)", "2 FAULTY 1 .. 100 (5)",
            "3 SLACK 1 .. 2000 (500)", "4 AHEAD 0 .. 40 (20)", "5 SEAM 0 .. 200 (10)", "6 LOUD 0 .. 100 (10)"};
        int[] low = {0, 0, 1, 1, 0, 0, 0};
        int[] high = {20, 50, 100, 2000, 40, 200, 100};
        int[] first = {4, 3, 5, 500, 20, 10, 10};
        FilmPrinter x = new FilmPrinter();
        for (int what = 0; what < 7; what++) {
            sentence(words[what]);
            for (int off : new int[] {low[what] - 1, high[what] + 1, MIN, MAX}) {
                due("terms(" + what + ", " + off + ")", x.terms(what, off), -1);
                due("status", x.status(), -1);
            }
            due("at first", x.terms(what, low[what]), first[what]);
            due("status", x.status(), 0);
            due("the least stood", x.terms(what, high[what]), low[what]);
            due("refused", x.terms(what, high[what] + 1), -1);
            due("the most stood, a refused one leaves it", x.terms(what, first[what]), high[what]);
        }
        for (int what = 0; what < 7; what++) {
            due("each has its own", x.terms(what, low[what]), first[what]);
        }
    }

    private static void termsThatAreNot() {
        sentence("A TERM: what it was. -1.");
        FilmPrinter x = new FilmPrinter();
        due("terms(-1, 1)", x.terms(-1, 1), -1);
        due("terms(7, 1)", x.terms(7, 1), -1);
        due("terms(MIN, 1)", x.terms(MIN, 1), -1);
        due("terms(MAX, 1)", x.terms(MAX, 1), -1);
        due("status", x.status(), -1);
        due("terms(6, 1)", x.terms(6, 1), 10);
        due("terms(0, 1)", x.terms(0, 1), 4);
        due("terms(0, 1) again", x.terms(0, 1), 1);
        due("status", x.status(), 0);
    }

    private static void counts() {
        sentence("0 SHOTS, 1 FRAMES of the NEGATIVE, 2 CLAUSES of the LAW, 3 greys SEEN, 4, 5 frames of COPIES 0, 1, "
                + "6 bytes of the TAPE. NONE for others.");
        FilmPrinter x = new FilmPrinter();
        for (int what = 0; what <= 6; what++) {
            due("count(" + what + ") of a new object", x.count(what), 0);
        }
        for (int n = 0; n < 16; n++) {
            x.shot(40, 0, 0, 0, 0, 0);
        }
        law(x, "cut;cut;cut;cut;cut;cut;cut;cut;cut;cut;cut;cut");
        for (int n = 0; n < 2; n++) {
            see(x, new int[400]);
        }
        for (int n = 0; n < 4; n++) {
            copy(x, 0, new int[n < 3 ? 400 : 80]);
            copy(x, 1, new int[n < 3 ? 400 : 78]);
        }
        tape(x, new int[400]);
        int[] most = {16, 640, 12, 800, 640, 639, 400};
        for (int what = 0; what <= 6; what++) {
            due("count(" + what + ")", x.count(what), most[what]);
        }
        for (int what : new int[] {-1, 7, MIN, MAX}) {
            due("count(" + what + ")", x.count(what), NONE);
        }
    }

    private static void statusAheadOfAny() {
        sentence("0 if it was not, or ahead of any.");
        FilmPrinter x = new FilmPrinter();
        due("ahead of any", x.status(), 0);
        x.feed(0, 0, 0, 0, 0);
        x.end(21);
        x.asks(0, 0, 0);
        x.copy(-1);
        due("behind a refused one", x.status(), -1);
        due("asking leaves it", x.status(), -1);
        x.image(0);
        due("behind one that was not", x.status(), 0);
    }

    private static void statusOfEach() {
        sentence("What the latest call of shot, terms, law, fail, see, copy, pair, image, back was REFUSED by");
        FilmPrinter x = new FilmPrinter();
        int[] got = new int[18];
        x.shot(0, 0, 0, 0, 0, 0);
        got[0] = x.status();
        x.shot(1, 0, 0, 0, 0, 0);
        got[1] = x.status();
        x.terms(7, 0);
        got[2] = x.status();
        x.terms(0, 0);
        got[3] = x.status();
        x.law();
        got[4] = x.status();
        law(x, "cut");
        got[5] = x.status();
        x.fail(15, 0);
        got[6] = x.status();
        x.fail(0, 0);
        got[7] = x.status();
        x.see();
        got[8] = x.status();
        see(x, 5);
        got[9] = x.status();
        x.copy(2);
        got[10] = x.status();
        copy(x, 0, 5, 5);
        got[11] = x.status();
        x.pair(3, 0, 0);
        got[12] = x.status();
        x.pair(0, 0, 0);
        got[13] = x.status();
        x.image(2);
        got[14] = x.status();
        x.image(0);
        got[15] = x.status();
        x.back(1);
        got[16] = x.status();
        x.back(0);
        got[17] = x.status();
        dueRow("status", got, -1, 0, -1, 0, -6, 0, -1, 0, -6, 0, -1, 0, -1, 0, -1, 0, -2, 0);
    }

    /** Each call that the sentence does not name, behind a refused one and behind one that was not. */
    private static void statusOfOthers() {
        sentence("What the latest call of shot, terms, law, fail, see, copy, pair, image, back was REFUSED by");
        for (int refused : new int[] {-2, 0}) {
            FilmPrinter x = new FilmPrinter();
            x.shot(1, 0, 0, 0, 0, 0);
            x.image(0);
            x.back(refused == 0 ? 0 : 1);
            for (int n = -1; n <= 16; n++) {
                x.of(n, n);
                x.asks(n, n, n);
                x.edition(n, n);
                x.place(n, n, n);
                x.printed(n, n);
                x.seen(n);
                x.explain(n, n);
                x.failed(n, n);
                x.jump(n, n);
                x.heard(n, n);
                x.sound(n, n);
                x.match(n, n);
                x.matched(n, n);
                x.one(n);
                x.from(n);
                x.brought(n, n);
                x.count(n);
                x.end(n);
                due("status behind others with " + n, x.status(), refused);
            }
            for (int n = 0; n < 21; n++) {
                x.feed(0, 0, 0, 0, 0);
            }
            x.fault();
            x.clear();
            due("status behind feed, fault, clear", x.status(), refused);
        }
    }
}
