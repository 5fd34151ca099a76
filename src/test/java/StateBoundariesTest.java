import java.util.Arrays;

/** The boundaries of an object as a whole, of clear, image and back: the end of Terms VI, promises 28 to 30. */
public final class StateBoundariesTest extends Sentences {
    public static void main(String[] args) {
        cleared();
        clearedToTheFull();
        clearedAlone();
        imagesByNumber();
        backByNumber();
        keptOfAll();
        keptOfNothing();
        keptToTheFull();
        tapeAndFaultStay();
        imagesStay();
        otherShotsInTheirPlace();
        oneOfFewerFrames();
        refusedLeavesAll();
        askingLeavesAll();
        longestUse();
        theConstant();
        finish();
    }

    private static void cleared() {
        sentence("What is SEEN, COPIES and FAILS are none: how many greys and frames there were.");
        FilmPrinter x = greys(10, 20);
        due("of none", x.clear(), 0);
        see(x, 1, 2, 3);
        due("greys alone", x.clear(), 3);
        copy(x, 0, 10, 1, 20, 1);
        due("frames of COPY 0 alone", x.clear(), 2);
        copy(x, 1, 10, 1);
        due("frames of COPY 1 alone", x.clear(), 1);
        see(x, 1, 2, 3);
        copy(x, 0, 10, 1, 20, 1);
        copy(x, 1, 10, 1);
        due("MISSING", x.one(2), 0);
        due("all", x.clear(), 6);
        due("of none again", x.clear(), 0);
        due("greys", x.count(3), 0);
        due("frames", x.count(4), 0);
        due("frames", x.count(5), 0);
        due("SEEN", x.seen(0), NONE);
        due("EXPLAINED", x.explain(0, 0), NONE);
        due("MATCHED", x.matched(0, 0), NONE);
        due("MATCHED in all", x.match(1, 0), 0);
        due("MISSING", x.one(2), 2);
        due("from", x.from(0), NONE);
        due("SEEN anew", see(x, 9), 1);
        due("the first", x.seen(0), 9);
        due("a COPY anew", copy(x, 0, 20, 3), 1);
        due("its cost", x.one(0), 3);
    }

    private static void clearedToTheFull() {
        sentence("What is SEEN, COPIES and FAILS are none: how many greys and frames there were.");
        FilmPrinter x = new FilmPrinter();
        for (int n = 0; n < 4; n++) {
            copy(x, 0, new int[n < 3 ? 400 : 80]);
            copy(x, 1, new int[n < 3 ? 400 : 80]);
        }
        see(x, new int[400]);
        see(x, new int[400]);
        for (int notch = 0; notch <= 14; notch++) {
            x.fail(notch, 1 + notch % 2);
        }
        due("how many", x.clear(), 800 + 640 + 640);
        for (int notch = 0; notch <= 14; notch++) {
            due("FAIL of " + notch, x.fail(notch, 0), 0);
        }
        due("room for greys", see(x, new int[400]), 400);
        due("room for frames", copy(x, 0, new int[400]), 200);
        due("room for frames", copy(x, 1, new int[400]), 200);
    }

    /** All that it does not name is as it was. */
    private static void clearedAlone() {
        sentence("What is SEEN, COPIES and FAILS are none: how many greys and frames there were.");
        FilmPrinter x = film();
        tape(x, 1, 2, 3);
        x.shot(0, 0, 0, 0, 0, 0);
        x.clear();
        due("status", x.status(), -1);
        due("TAPE", x.count(6), 3);
        due("FAULT", x.fault(), 4);
        due("SHOTS", x.count(0), 4);
        due("FRAMES", x.count(1), 9);
        due("CLAUSES", x.count(2), 3);
        due("LIGHT", x.asks(3, 0, 0), 35);
        due("PAIRS", x.brought(1, 30), 41);
        due("GAIN", x.terms(GAIN, 0), 5);
    }

    private static void imagesByNumber() {
        sentence("IMAGE k is kept: 0; -1.");
        FilmPrinter x = new FilmPrinter();
        for (int off : new int[] {-1, 2, MIN, MAX}) {
            due("image(" + off + ")", x.image(off), -1);
            due("status", x.status(), -1);
        }
        due("none was kept", x.back(0), -2);
        due("none was kept", x.back(1), -2);
        due("image(0)", x.image(0), 0);
        due("status", x.status(), 0);
        due("image(1)", x.image(1), 0);
        due("status", x.status(), 0);
        due("image(0) again", x.image(0), 0);
    }

    private static void backByNumber() {
        sentence("BACK to IMAGE k: 0. -1; -2 it was not kept.");
        for (int k = 0; k <= 1; k++) {
            FilmPrinter x = new FilmPrinter();
            for (int off : new int[] {-1, 2, MIN, MAX}) {
                due("back(" + off + ")", x.back(off), -1);
                due("status", x.status(), -1);
            }
            due("not kept", x.back(k), -2);
            due("status", x.status(), -2);
            x.shot(1, 0, 0, 0, 0, 0);
            x.image(k);
            x.shot(1, 0, 0, 0, 0, 0);
            due("the other was not kept", x.back(1 - k), -2);
            due("as it was", x.count(0), 2);
            due("kept", x.back(k), 0);
            due("status", x.status(), 0);
            due("BACK", x.count(0), 1);
            due("the other is still not kept", x.back(1 - k), -2);
            for (int off : new int[] {-1, 2, MIN, MAX}) {
                due("back(" + off + ")", x.back(off), -1);
            }
        }
    }

    /** A film that has something of all that can be kept, and a FAULT. */
    private static FilmPrinter film() {
        FilmPrinter x = new FilmPrinter();
        x.shot(3, 100, 2, 0, 10, 20);
        x.shot(1, 120, 0, 1, 40, 30);
        x.shot(2, 90, -4, 2, 70, 40);
        x.shot(3, 110, 1, 3, 20, 10);
        law(x, "light 20+5*shot;title 1 if kind=land+1;cut if land=6");
        int[] terms = {5, 2, 2, 60, 2, 3, 25};
        for (int what = 0; what < 7; what++) {
            x.terms(what, terms[what]);
        }
        x.fail(0, 1);
        x.fail(1, 2);
        x.fail(14, 2);
        see(x, 100, 102, 104, 120, 140, 136, 255, 160, 160, 161);
        copy(x, 0, 100, 4, 104, 9, 120, 2, 50, 1, 110, 0, 112, 3);
        copy(x, 1, 100, 1, 102, 2, 104, 3, 90, 7, 112, 5);
        x.pair(0, 100, 110);
        x.pair(0, 200, 180);
        x.pair(1, 30, 41);
        x.pair(2, 7, 250);
        law(x, "cut cut");
        return x;
    }

    /** Another film in its place: each number of it is another one. */
    private static void replace(FilmPrinter x) {
        x.shot(5, 7, 7, 7, 7, 7);
        law(x, "light 33");
        int[] terms = {1, 9, 9, 9, 9, 9, 9};
        for (int what = 0; what < 7; what++) {
            x.terms(what, terms[what]);
        }
        x.clear();
        for (int notch = 0; notch <= 14; notch++) {
            x.fail(notch, notch < 2 ? 0 : 1);
        }
        see(x, row(30, 77));
        copy(x, 0, row(30, 78));
        copy(x, 1, row(40, 79));
        for (int strip = 0; strip <= 2; strip++) {
            x.pair(strip, 100, 1);
            x.pair(strip, 30, 2);
            x.pair(strip, 7, 3);
            x.pair(strip, 5, 4);
        }
    }

    /** What can be asked without changing anything, but for the TAPE and FAULT. */
    private static int[] told(FilmPrinter x) {
        int[] row = new int[400];
        int n = 0;
        for (int what = 0; what <= 5; what++) {
            row[n++] = x.count(what);
        }
        for (int shot = 0; shot <= 4; shot++) {
            for (int what = 0; what <= 6; what++) {
                row[n++] = x.of(shot, what);
            }
            row[n++] = x.asks(shot, 2, 0);
            row[n++] = x.asks(shot, 2, 1);
            row[n++] = x.asks(shot, 6, 2);
        }
        for (int place = 0; place <= 11; place++) {
            row[n++] = x.printed(2, place);
            row[n++] = x.seen(place);
            row[n++] = x.heard(2, place);
        }
        for (int what = 0; what <= 2; what++) {
            row[n++] = x.explain(2, what);
            row[n++] = x.failed(2, what);
            row[n++] = x.sound(2, what);
            row[n++] = x.jump(2, what - 1);
        }
        for (int frame = 0; frame <= 9; frame++) {
            row[n++] = x.from(frame);
        }
        for (int k = 0; k <= 6; k++) {
            row[n++] = x.matched(0, k);
            row[n++] = x.matched(1, k);
        }
        for (int what = 0; what <= 4; what++) {
            row[n++] = x.one(what);
        }
        for (int strip = 0; strip <= 2; strip++) {
            row[n++] = x.brought(strip, 7);
            row[n++] = x.brought(strip, 30);
            row[n++] = x.brought(strip, 150);
        }
        return Arrays.copyOf(row, n);
    }

    /** TERMS and FAILS can be told only by changing them. */
    private static int[] termsAndFails(FilmPrinter x) {
        int[] row = new int[22];
        for (int what = 0; what < 7; what++) {
            row[what] = x.terms(what, 1);
        }
        for (int notch = 0; notch <= 14; notch++) {
            row[7 + notch] = x.fail(notch, 0);
        }
        return row;
    }

    private static int pairsOf(FilmPrinter x, int strip) {
        return x.pair(strip, 211, 0);
    }

    private static void keptOfAll() {
        sentence("IMAGES 0, 1 keep all but the TAPE and FAULT; BACK to one all that it keeps is as it was then "
                + "(IMAGES stay).");
        for (int k = 0; k <= 1; k++) {
            FilmPrinter x = film();
            int[] before = told(x);
            x.image(k);
            replace(x);
            due("another film", x.count(1), 14);
            x.back(k);
            dueRow("BACK", told(x), before);
            dueRow("TERMS and FAILS", termsAndFails(x), 5, 2, 2, 60, 2, 3, 25, 1, 2, 0, 0, 0, 0, 0, 0, 0, 0, 0, 0, 0, 0, 2);
        }
        FilmPrinter y = film();
        y.image(0);
        replace(y);
        y.back(0);
        due("PAIRS of 0 and one", pairsOf(y, 0), 3);
        due("PAIRS of 1 and one", pairsOf(y, 1), 2);
        due("PAIRS of 2 and one", pairsOf(y, 2), 2);
        due("the next SHOT", y.shot(1, 0, 0, 0, 0, 0), 4);
        due("its first FRAME", y.of(4, 6), 9);
    }

    private static void keptOfNothing() {
        sentence("IMAGES 0, 1 keep all but the TAPE and FAULT; BACK to one all that it keeps is as it was then "
                + "(IMAGES stay).");
        FilmPrinter x = new FilmPrinter();
        int[] before = told(x);
        x.image(1);
        x.shot(3, 100, 2, 0, 10, 20);
        replace(x);
        x.back(1);
        dueRow("BACK to nothing", told(x), before);
        dueRow("TERMS and FAILS", termsAndFails(x), 4, 3, 5, 500, 20, 10, 10, 0, 0, 0, 0, 0, 0, 0, 0, 0, 0, 0, 0, 0, 0, 0);
        for (int strip = 0; strip <= 2; strip++) {
            due("PAIRS", pairsOf(x, strip), 1);
        }
        due("the first SHOT", x.shot(1, 0, 0, 0, 0, 0), 0);
    }

    private static void keptToTheFull() {
        sentence("IMAGES 0, 1 keep all but the TAPE and FAULT; BACK to one all that it keeps is as it was then "
                + "(IMAGES stay).");
        FilmPrinter x = new FilmPrinter();
        x.image(0);
        for (int n = 0; n < 16; n++) {
            x.shot(40, 100, 0, 0, 99, 0);
        }
        for (int n = 0; n < 4; n++) {
            copy(x, 0, row(n < 3 ? 400 : 80, 100));
            copy(x, 1, row(n < 3 ? 400 : 80, 101));
        }
        see(x, row(400, 5));
        see(x, row(400, 6));
        for (int n = 0; n < 20; n++) {
            x.pair(2, n, n + 1);
        }
        law(x, "light 1;light 2;light 3;light 4;light 5;light 6;light 7;light 8;light 9;light 10;light 11;title land*9");
        x.image(1);
        x.back(0);
        for (int what = 0; what <= 5; what++) {
            due("count(" + what + ") BACK to 0", x.count(what), 0);
        }
        x.back(1);
        int[] most = {16, 640, 12, 800, 640, 640};
        for (int what = 0; what <= 5; what++) {
            due("count(" + what + ") BACK to 1", x.count(what), most[what]);
        }
        due("the last SHOT", x.of(15, 4), 99);
        due("the last grey", x.seen(799), 6);
        due("the last frame", x.matched(1, 639), 639);
        due("cost", x.one(0), 640 * 100);
        due("the last LIGHT", x.asks(15, 1, 0), 11);
        due("the last CLAUSE", x.asks(15, 1, 1), 9);
        due("the last PAIR", x.brought(2, 19), 20);
        due("no SHOT more", x.shot(1, 0, 0, 0, 0, 0), -5);
        due("no PAIR more", x.pair(2, 20, 0), -5);
        due("no grey more", see(x, 0), -5);
        due("no frame more", copy(x, 1, 0, 0), -5);
    }

    private static void tapeAndFaultStay() {
        sentence("IMAGES 0, 1 keep all but the TAPE and FAULT; BACK to one all that it keeps is as it was then "
                + "(IMAGES stay).");
        FilmPrinter x = new FilmPrinter();
        law(x, "cut cut");
        tape(x, "light 9");
        x.image(0);
        due("FAULT", x.fault(), 4);
        due("TAPE", x.count(6), 7);
        law(x, "light 5 5");
        tape(x, "light 12  ");
        x.back(0);
        due("the later FAULT", x.fault(), 8);
        due("the later TAPE", x.count(6), 10);
        due("it becomes the LAW", x.law(), 1);
        x.shot(1, 0, 0, 0, 0, 0);
        due("LIGHT", x.asks(0, 0, 0), 12);
        due("no FAULT", x.fault(), NONE);
        x.back(0);
        due("still no FAULT", x.fault(), NONE);
        due("no LAW", x.count(2), 0);
        due("no TAPE", x.count(6), 0);
    }

    private static void imagesStay() {
        sentence("IMAGES 0, 1 keep all but the TAPE and FAULT; BACK to one all that it keeps is as it was then "
                + "(IMAGES stay).");
        FilmPrinter x = new FilmPrinter();
        x.shot(1, 0, 0, 0, 0, 0);
        x.image(0);
        x.shot(2, 0, 0, 0, 0, 0);
        x.image(1);
        x.shot(3, 0, 0, 0, 0, 0);
        due("BACK to 0", x.back(0), 0);
        due("FRAMES", x.count(1), 1);
        x.shot(40, 0, 0, 0, 0, 0);
        due("BACK to 1, which is later", x.back(1), 0);
        due("FRAMES", x.count(1), 3);
        due("SHOT", x.of(1, 0), 2);
        due("BACK to 0 again", x.back(0), 0);
        due("FRAMES", x.count(1), 1);
        x.terms(GAIN, 9);
        due("BACK to 0 once more", x.back(0), 0);
        due("GAIN", x.terms(GAIN, 7), 4);
        due("kept anew", x.image(0), 0);
        due("BACK to 1", x.back(1), 0);
        due("GAIN", x.terms(GAIN, 6), 4);
        due("BACK to 0", x.back(0), 0);
        due("GAIN", x.terms(GAIN, 6), 7);
    }

    private static void otherShotsInTheirPlace() {
        sentence("BACK to one all that it keeps is as it was then");
        FilmPrinter x = new FilmPrinter();
        x.terms(AHEAD, 0);
        x.image(0);
        x.shot(2, 50, 1, 2, 60, 7);
        x.shot(1, 90, 0, 0, 0, 0);
        copy(x, 0, 51, 4);
        x.image(1);
        x.back(0);
        x.shot(1, 200, 0, 0, 0, 0);
        x.shot(3, 210, -5, 0, 0, 0);
        dueRow("GREYS of the others", printed(x, 0), 200, 210, 205, 200);
        dueRow("SHOTS of the others", heard(x, 0), 0, 1, 1, 1);
        x.back(1);
        dueRow("GREYS as they were", printed(x, 0), 50, 51, 90);
        dueRow("SHOTS as they were", heard(x, 0), 0, 0, 1);
        due("FRAME as it was", x.matched(0, 0), 0);
    }

    /** What was reckoned for more FRAMES must not count for fewer. */
    private static void oneOfFewerFrames() {
        sentence("BACK to one all that it keeps is as it was then");
        for (int worse = 0; worse <= 1; worse++) {
            FilmPrinter x = greys(10, 20);
            x.terms(SEAM, 200);
            copy(x, worse, 10, 5, 20, 5);
            copy(x, 1 - worse, 10, 6, 20, 6);
            x.image(0);
            x.shot(1, 30, 0, 0, 0, 0);
            copy(x, worse, 30, 99);
            copy(x, 1 - worse, 30, 0);
            due("from the better one of all", x.from(0), 1 - worse);
            due("cost", x.one(0), 12);
            x.back(0);
            due("from the better one of two", x.from(0), worse);
            due("cost", x.one(0), 10);
        }
    }

    private static int refusedCall(FilmPrinter x, int n) {
        switch (n) {
            case 0:
                return x.shot(41, 1, 1, 1, 1, 1);
            case 1:
                return x.terms(SLACK, 0);
            case 2:
                return x.terms(7, 1);
            case 3:
                return law(x, "light 40;title 9;cut;");
            case 4:
                return x.law();
            case 5:
                return x.fail(15, 2);
            case 6:
                return x.fail(0, 3);
            case 7:
                return x.see();
            case 8:
                return x.copy(0);
            case 9:
                return copy(x, 2, 100, 100);
            case 10:
                return x.pair(0, 256, 1);
            case 11:
                return x.pair(0, 100, 256);
            case 12:
                return x.pair(3, 100, 1);
            case 13:
                return x.image(2);
            case 14:
                return x.back(2);
            default:
                return x.back(1);
        }
    }

    private static void refusedLeavesAll() {
        sentence("REFUSED by: -1 a number that can't be; -2 there is no such SHOT, IMAGE; -5 no room; "
                + "-6 a TEXT, a ROW that can't be.");
        int[] by = {-1, -1, -1, -6, -6, -1, -1, -6, -6, -1, -1, -1, -1, -1, -1, -2};
        for (int n = 0; n < by.length; n++) {
            FilmPrinter x = film();
            x.image(0);
            int[] before = told(x);
            due("refused call " + n, refusedCall(x, n), by[n]);
            due("status", x.status(), by[n]);
            dueRow("left by refused call " + n, told(x), before);
            dueRow("left by refused call " + n, termsAndFails(x), 5, 2, 2, 60, 2, 3, 25,
                    1, 2, 0, 0, 0, 0, 0, 0, 0, 0, 0, 0, 0, 0, 2);
        }
        FilmPrinter y = film();
        int[] before = told(y);
        FilmPrinter z = film();
        for (int n = 0; n < by.length; n++) {
            refusedCall(z, n);
        }
        dueRow("left by all", told(z), before);
        due("status", z.status(), -2);
    }

    private static void askingLeavesAll() {
        sentence("Nothing is promised beyond the answers and state changes described above");
        FilmPrinter x = film();
        tape(x, 1, 2, 3);
        int[] before = told(x);
        dueRow("asked again", told(x), before);
        due("TAPE", x.count(6), 3);
        due("FAULT", x.fault(), 4);
        due("GAIN", x.terms(GAIN, 1), 5);
        due("FAIL", x.fail(1, 0), 2);
        due("TAPE", x.count(6), 3);
    }

    /** The dearest film there can be, asked until the last call. */
    private static void longestUse() {
        sentence("An object is used for at most 512 calls after it has been made");
        FilmPrinter x = new FilmPrinter();
        for (int n = 0; n < 16; n++) {
            x.shot(40, 100, 0, 0, n, 40);
        }
        for (int call = 17; call <= 510; call++) {
            due("call " + call, x.terms(WITHIN, call % 51), call == 17 ? 3 : (call - 1) % 51);
        }
        due("call 511", x.printed(0, 639), 100);
        due("call 512", x.of(15, 4), 15);
    }

    private static void theConstant() {
        sentence("`NONE = -1`: There is none.");
        due("NONE", FilmPrinter.NONE, -1);
        due("what there is none of", new FilmPrinter().count(7), FilmPrinter.NONE);
    }
}
