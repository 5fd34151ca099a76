/** The boundaries of COPIES, ONE and STRIPS: Terms V and VI, promises 21 to 27. */
public final class CopyBoundariesTest extends Sentences {
    public static void main(String[] args) {
        rowsOfCopies();
        refusedCopies();
        matchedWithin();
        matchedInOrder();
        matchedMost();
        matchedAlike();
        matchedOfMany();
        strayAmongMany();
        matchCounted();
        matchedFrames();
        takenForOne();
        seams();
        dearestSeams();
        alikeRows();
        older();
        missingRows();
        costliest();
        oneAsked();
        fromFrames();
        pairsOfStrips();
        refusedPairs();
        inAPair();
        betweenTwo();
        belowAndAboveAll();
        belowAndAboveOneAtTheEnd();
        broughtOrNot();
        finish();
    }

    private static void rowsOfCopies() {
        sentence("COPIES 0, 1: rows of frames, 640 at most, told by ROWS of two bytes each "
                + "(one alone at the end is none): GREY, SCRATCH.");
        FilmPrinter x = greys(0, 100, 255);
        due("one byte", copy(x, 0, 0), 0);
        due("two bytes", copy(x, 0, 0, 7), 1);
        due("three bytes", copy(x, 0, 100, 255, 255), 2);
        due("the byte alone does not wait", copy(x, 0, 255, 3), 3);
        dueRow("GREYS of both ROWS", matched(x, 0), 0, 1, 2);
        due("SCRATCHES of both ROWS", x.one(0), 7 + 255 + 3);
        due("the other has none", x.count(5), 0);
        due("four bytes", copy(x, 1, 0, 1, 100, 2), 2);
        due("five bytes", copy(x, 1, 0, 1, 100, 2, 50), 4);
        due("the first is as it was", x.count(4), 3);
        due("no COPY 2", copy(x, 2, 0, 0), -1);
        due("no COPY -1", copy(x, -1, 0, 0), -1);
    }

    private static void refusedCopies() {
        sentence("A ROW of a COPY, the TAPE is empty then: how many frames it has. "
                + "-1; -5 there would be more than 640; -6 the TAPE is empty.");
        for (int c = 0; c <= 1; c++) {
            FilmPrinter x = new FilmPrinter();
            due("of none", x.copy(c), -6);
            due("status", x.status(), -6);
            for (int n = 1; n <= 3; n++) {
                due("200 more", copy(x, c, new int[400]), 200 * n);
                due("the TAPE is empty", x.count(6), 0);
            }
            due("641", copy(x, c, new int[82]), -5);
            due("status", x.status(), -5);
            due("the TAPE is empty", x.count(6), 0);
            due("as many as before", x.count(4 + c), 600);
            due("641 and a byte", copy(x, c, new int[83]), -5);
            due("639", copy(x, c, new int[78]), 639);
            due("641", copy(x, c, new int[4]), -5);
            due("640 and a byte", copy(x, c, new int[3]), 640);
            due("status", x.status(), 0);
            due("640 and a byte again", copy(x, c, new int[1]), 640);
            due("641", copy(x, c, new int[2]), -5);
            due("of none when full", x.copy(c), -6);
            due("the other has room", copy(x, 1 - c, new int[2]), 1);
            for (int off : new int[] {-1, 2, MIN, MAX}) {
                due("COPY " + off, copy(x, off, 1, 1), -1);
                due("status", x.status(), -1);
                due("the TAPE is empty", x.count(6), 0);
                due("COPY " + off + " of none", x.copy(off), -1);
            }
            due("as many as before", x.count(4 + c), 640);
            due("the other too", x.count(5 - c), 1);
        }
    }

    private static void matchedWithin() {
        sentence("GREYS at most WITHIN apart");
        for (int within : new int[] {0, 1, 3, 50}) {
            FilmPrinter x = greys(100, 100, 100, 100);
            x.terms(WITHIN, within);
            copy(x, 0, 100 - within, 0, 100 + within, 0);
            dueRow("just WITHIN " + within, matched(x, 0), 0, 1);
            copy(x, 1, 100 - within - 1, 0, 100 + within + 1, 0);
            dueRow("one off WITHIN " + within, matched(x, 1), NONE, NONE);
        }
        FilmPrinter y = greys(0, 255);
        copy(y, 0, 3, 0, 252, 0);
        dueRow("at the ends", matched(y, 0), 0, 1);
        copy(y, 1, 4, 0, 251, 0);
        dueRow("one off the ends", matched(y, 1), NONE, NONE);
        y.terms(WITHIN, 4);
        dueRow("a wider WITHIN", matched(y, 1), 0, 1);
        y.terms(WITHIN, 2);
        dueRow("a narrower WITHIN", matched(y, 0), NONE, NONE);
    }

    /** The FRAMES with which COPY 0 is MATCHED, WITHIN 0. */
    private static int[] matchedTo(FilmPrinter x, int... greysOfCopy) {
        x.terms(WITHIN, 0);
        x.clear();
        int[] bytes = new int[2 * greysOfCopy.length];
        for (int k = 0; k < greysOfCopy.length; k++) {
            bytes[2 * k] = greysOfCopy[k];
        }
        copy(x, 0, bytes);
        return matched(x, 0);
    }

    private static void matchedInOrder() {
        sentence("MATCHED are frames of a COPY, in order, with FRAMES of the NEGATIVE, in order, each with one");
        FilmPrinter x = greys(10, 20, 30);
        dueRow("all in order", matchedTo(x, 10, 20, 30), 0, 1, 2);
        dueRow("two in order", matchedTo(x, 10, 30), 0, 2);
        dueRow("two out of order", matchedTo(x, 20, 10), 1, NONE);
        dueRow("all out of order", matchedTo(x, 30, 20, 10), 2, NONE, NONE);
        dueRow("one FRAME, two frames", matchedTo(greys(10), 10, 10), 0, NONE);
        dueRow("two FRAMES, one frame", matchedTo(greys(10, 10), 10), 0);
        dueRow("two FRAMES, three frames", matchedTo(greys(10, 10), 10, 10, 10), 0, 1, NONE);
        dueRow("over darker FRAMES", matchedTo(greys(10, 20, 30), 30), 2);
        dueRow("over brighter FRAMES", matchedTo(greys(30, 20, 10), 10), 2);
        dueRow("no FRAME", matchedTo(greys(), 10, 10), NONE, NONE);
        law(x, "cut;title 5;light 40");
        dueRow("the NEGATIVE knows no LAW", matchedTo(x, 10, 20, 30), 0, 1, 2);
    }

    private static void matchedMost() {
        sentence("others are STRAY: as many as can be");
        FilmPrinter x = greys(10, 20, 30);
        dueRow("the first STRAY for two others", matchedTo(x, 30, 10, 20), NONE, 0, 1);
        dueRow("one for one: the first", matchedTo(x, 30, 10), 2, NONE);
        dueRow("the midst STRAY", matchedTo(x, 10, 30, 20, 30), 0, NONE, 1, 2);
        dueRow("all STRAY", matchedTo(x, 11, 21, 31), NONE, NONE, NONE);
        dueRow("two STRAY for three others", matchedTo(greys(10, 20, 30, 40, 50), 40, 50, 10, 20, 30),
                NONE, NONE, 0, 1, 2);
        dueRow("two for two: the first", matchedTo(greys(10, 20, 40, 50), 40, 50, 10, 20), 2, 3, NONE, NONE);
    }

    private static void matchedAlike() {
        sentence("of alike ones each frame of the COPY, the first ones first, rather MATCHED than STRAY, "
                + "and with a lower FRAME.");
        dueRow("the first of two", matchedTo(greys(10), 10, 10), 0, NONE);
        dueRow("the first two of three", matchedTo(greys(10, 10, 20), 10, 10, 10, 20), 0, 1, NONE, 2);
        dueRow("the first, though a later one has a lower FRAME", matchedTo(greys(10, 20), 20, 10), 1, NONE);
        dueRow("the first and a later one", matchedTo(greys(10, 20, 30), 20, 10, 30), 1, NONE, 2);
        dueRow("the lower FRAME", matchedTo(greys(10, 20, 10), 10), 0);
        dueRow("the lower FRAME behind another", matchedTo(greys(10, 20, 10, 20), 20, 10), 1, 2);
        dueRow("the lower FRAMES", matchedTo(greys(10, 20, 10, 20), 10, 20), 0, 1);
        dueRow("the lower FRAME of four", matchedTo(greys(5, 10, 10, 10, 10), 10, 10), 1, 2);
        FilmPrinter x = greys(100, 103, 106);
        copy(x, 0, 103, 0);
        dueRow("the lower FRAME, not the nearest GREY", matched(x, 0), 0);
        copy(x, 1, 106, 0, 100, 0);
        dueRow("the first, with the lower FRAME", matched(x, 1), 1, NONE);
        copy(x, 0, 103, 0, 103, 0);
        dueRow("each lower FRAME", matched(x, 0), 0, 1, 2);
    }

    private static void matchedOfMany() {
        sentence("COPIES 0, 1: rows of frames, 640 at most, told by ROWS of two bytes each "
                + "(one alone at the end is none): GREY, SCRATCH.");
        FilmPrinter x = new FilmPrinter();
        for (int n = 0; n < 16; n++) {
            x.shot(40, 100, 0, 0, 0, 0);
        }
        for (int n = 0; n < 4; n++) {
            copy(x, 0, row(n < 3 ? 400 : 80, 100));
            copy(x, 1, row(n < 3 ? 400 : 80, n == 0 ? 200 : 100));
        }
        due("all MATCHED", x.match(0, 0), 640);
        due("none STRAY", x.match(0, 1), 0);
        due("the first", x.matched(0, 0), 0);
        due("the 32nd", x.matched(0, 31), 31);
        due("the 33rd", x.matched(0, 32), 32);
        due("the last", x.matched(0, 639), 639);
        due("none behind", x.matched(0, 640), NONE);
        due("the other: MATCHED", x.match(1, 0), 440);
        due("the other: STRAY", x.match(1, 1), 200);
        due("the other: the last STRAY", x.matched(1, 199), NONE);
        due("the other: the first MATCHED", x.matched(1, 200), 0);
        due("the other: the last", x.matched(1, 639), 439);
    }

    /** 80 FRAMES of different GREYS, each with a frame of its own, and a STRAY one ahead of each. */
    private static void strayAmongMany() {
        sentence("others are STRAY: as many as can be");
        for (int off : new int[] {-1, 2}) {
            FilmPrinter x = new FilmPrinter();
            x.shot(40, 0, 3, 0, 0, 0);
            x.shot(40, 120, 3, 0, 0, 0);
            int[] bytes = new int[320];
            int[] want = new int[160];
            for (int f = 0; f < 80; f++) {
                bytes[4 * f] = f + off < 0 || f + off >= 80 ? 250 : 3 * (f + off);
                want[2 * f] = NONE;
                bytes[4 * f + 2] = 3 * f;
                want[2 * f + 1] = f;
            }
            x.terms(WITHIN, 0);
            copy(x, 0, bytes);
            due("MATCHED", x.match(0, 0), 80);
            dueRow("each STRAY one is as FRAME " + off + " of its own", matched(x, 0), want);
        }
    }

    private static void matchCounted() {
        sentence("How many frames of a COPY are MATCHED (what 0), STRAY (1). NONE.");
        FilmPrinter x = greys(10, 20, 30);
        for (int c = 0; c <= 1; c++) {
            due("none", x.match(c, 0), 0);
            due("none", x.match(c, 1), 0);
        }
        copy(x, 1, 10, 0, 99, 0, 30, 0, 20, 0, 99, 0);
        due("MATCHED", x.match(1, 0), 2);
        due("STRAY", x.match(1, 1), 3);
        due("MATCHED of the other", x.match(0, 0), 0);
        due("STRAY of the other", x.match(0, 1), 0);
        for (int off : new int[] {-1, 2, MIN, MAX}) {
            due("what " + off, x.match(1, off), NONE);
            due("COPY " + off, x.match(off, 0), NONE);
            due("COPY " + off, x.match(off, 1), NONE);
        }
        FilmPrinter y = new FilmPrinter();
        copy(y, 0, 10, 0);
        due("no FRAMES", y.match(0, 0), 0);
        due("no FRAMES", y.match(0, 1), 1);
    }

    private static void matchedFrames() {
        sentence("The FRAME with which a COPY's k-th frame is MATCHED; NONE: STRAY, there is none such.");
        FilmPrinter x = greys(10, 20, 30);
        due("of none", x.matched(0, 0), NONE);
        copy(x, 0, 10, 0, 99, 0, 30, 0);
        due("the first", x.matched(0, 0), 0);
        due("STRAY", x.matched(0, 1), NONE);
        due("the last", x.matched(0, 2), 2);
        for (int off : new int[] {-1, 3, 640, MIN, MAX}) {
            due("frame " + off, x.matched(0, off), NONE);
        }
        for (int off : new int[] {-1, 1, 2, MIN, MAX}) {
            due("COPY " + off, x.matched(off, 0), NONE);
        }
        x.clear();
        due("of none again", x.matched(0, 0), NONE);
    }

    private static void takenForOne() {
        sentence("each FRAME that both have is taken from COPY 0 or 1, one that one alone has from that, "
                + "one that neither has is MISSING.");
        FilmPrinter x = greys(10, 20, 30, 40);
        copy(x, 0, 10, 5, 20, 0);
        copy(x, 1, 10, 4, 30, 0);
        dueRow("from", from(x), 0, 0, 1, NONE);
        due("cost", x.one(0), 15);
        due("SEAMS", x.one(1), 1);
        due("MISSING", x.one(2), 1);
        copy(x, 1, 40, 0);
        dueRow("none is MISSING", from(x), 0, 0, 1, 1);
        due("MISSING", x.one(2), 0);
        x.clear();
        dueRow("all are MISSING", from(x), NONE, NONE, NONE, NONE);
        due("MISSING", x.one(2), 4);
        copy(x, 1, 10, 9, 20, 9, 30, 9, 40, 9);
        dueRow("one COPY alone", from(x), 1, 1, 1, 1);
        due("its cost", x.one(0), 36);
        due("its SEAMS", x.one(1), 0);
        copy(x, 0, 99, 0, 77, 0);
        dueRow("STRAY ones are not had", from(x), 1, 1, 1, 1);
    }

    /** Two FRAMES that both COPIES have: the second one is better in COPY 1 by as much as told. */
    private static FilmPrinter better(int seam, int by) {
        FilmPrinter x = greys(10, 20);
        x.terms(SEAM, seam);
        copy(x, 0, 10, 0, 20, by);
        copy(x, 1, 10, 255, 20, 0);
        return x;
    }

    private static void oneIs(String what, FilmPrinter x, int cost, int seams, int... from) {
        due(what + ": cost", x.one(0), cost);
        due(what + ": SEAMS", x.one(1), seams);
        dueRow(what + ": from", from(x), from);
    }

    private static void seams() {
        sentence("It costs the SCRATCHES of those that are taken, and SEAM for each that is taken from another COPY "
                + "than the one taken latest ahead of it.");
        oneIs("9 for 10", better(10, 9), 9, 0, 0, 0);
        oneIs("10 for 10", better(10, 10), 10, 0, 0, 0);
        oneIs("11 for 10", better(10, 11), 10, 1, 0, 1);
        oneIs("0 for 0", better(0, 0), 0, 0, 0, 0);
        oneIs("1 for 0", better(0, 1), 0, 1, 0, 1);
        oneIs("200 for 200", better(200, 200), 200, 0, 0, 0);
        oneIs("201 for 200", better(200, 201), 200, 1, 0, 1);
        FilmPrinter x = greys(10, 20, 30);
        copy(x, 0, 10, 1);
        copy(x, 1, 30, 2);
        oneIs("over a MISSING one", x, 13, 1, 0, NONE, 1);
        FilmPrinter y = greys(10, 20);
        copy(y, 1, 20, 3);
        oneIs("the first that is taken has no SEAM", y, 3, 0, NONE, 1);
        FilmPrinter z = greys(10, 20, 30);
        copy(z, 0, 10, 0, 30, 50);
        copy(z, 1, 10, 5, 30, 0);
        oneIs("COPY 1 for what comes behind a MISSING one", z, 5, 0, 1, NONE, 1);
        z.clear();
        copy(z, 0, 10, 5, 30, 0);
        copy(z, 1, 10, 0, 30, 50);
        oneIs("COPY 0 for what comes behind a MISSING one", z, 5, 0, 0, NONE, 0);
    }

    private static void dearestSeams() {
        sentence("It costs the SCRATCHES of those that are taken, and SEAM for each that is taken from another COPY "
                + "than the one taken latest ahead of it.");
        int[] greys = {0, 10, 20, 30, 40, 50, 60, 70, 80, 90, 100, 110, 120, 130, 140, 150};
        FilmPrinter x = greys(greys);
        x.terms(SEAM, 200);
        int[] even = new int[16];
        int[] odd = new int[16];
        for (int n = 0; n < 16; n++) {
            int[] row = n % 2 == 0 ? even : odd;
            row[n / 2 * 2] = greys[n];
            row[n / 2 * 2 + 1] = n;
        }
        copy(x, 0, even);
        copy(x, 1, odd);
        oneIs("each from the other", x, 15 * 200 + 120, 15, 0, 1, 0, 1, 0, 1, 0, 1, 0, 1, 0, 1, 0, 1, 0, 1);
    }

    private static FilmPrinter scratches(int seam, int[] of0, int[] of1) {
        int[] greys = {10, 20, 30, 40};
        FilmPrinter x = new FilmPrinter();
        int[] row0 = new int[2 * of0.length];
        int[] row1 = new int[2 * of1.length];
        for (int n = 0; n < of0.length; n++) {
            x.shot(1, greys[n], 0, 0, 0, 0);
            row0[2 * n] = greys[n];
            row0[2 * n + 1] = of0[n];
            row1[2 * n] = greys[n];
            row1[2 * n + 1] = of1[n];
        }
        x.terms(SEAM, seam);
        copy(x, 0, row0);
        copy(x, 1, row1);
        return x;
    }

    private static void alikeRows() {
        sentence("The least; of alike ones the first as rows (0 ahead of 1).");
        oneIs("both alike", scratches(10, new int[] {5, 5}, new int[] {5, 5}), 10, 0, 0, 0);
        oneIs("alike in all", scratches(10, new int[] {5, 5}, new int[] {4, 6}), 10, 0, 0, 0);
        oneIs("one less in all", scratches(10, new int[] {5, 5}, new int[] {4, 5}), 9, 0, 1, 1);
        oneIs("one less", scratches(10, new int[] {5}, new int[] {4}), 4, 0, 1);
        oneIs("one more", scratches(10, new int[] {4}, new int[] {5}), 4, 0, 0);
        oneIs("0 0 0 ahead of 1 1 0 and 1 1 1",
                scratches(10, new int[] {0, 10, 0}, new int[] {0, 0, 10}), 10, 0, 0, 0, 0);
        oneIs("1 1 0 ahead of 1 1 1",
                scratches(10, new int[] {1, 10, 0}, new int[] {0, 0, 10}), 10, 1, 1, 1, 0);
        oneIs("0 0 1 ahead of 0 1 1",
                scratches(5, new int[] {0, 3, 90}, new int[] {90, 3, 0}), 8, 1, 0, 0, 1);
        oneIs("0 1 1 for one less",
                scratches(5, new int[] {0, 4, 90}, new int[] {90, 3, 0}), 8, 1, 0, 1, 1);
        oneIs("SEAMS for nothing, 0 of alike ones",
                scratches(0, new int[] {7, 0, 7, 7}, new int[] {0, 7, 7, 0}), 7, 2, 1, 0, 0, 1);
    }

    private static void older() {
        sentence("OLDER are FRAMES that both have, with SCRATCHES above 0 in both.");
        due("0 and 0", scratches(10, new int[] {0}, new int[] {0}).one(4), 0);
        due("1 and 0", scratches(10, new int[] {1}, new int[] {0}).one(4), 0);
        due("0 and 1", scratches(10, new int[] {0}, new int[] {1}).one(4), 0);
        due("1 and 1", scratches(10, new int[] {1}, new int[] {1}).one(4), 1);
        due("255 and 255", scratches(10, new int[] {255}, new int[] {255}).one(4), 1);
        due("two of four", scratches(10, new int[] {3, 0, 0, 9}, new int[] {1, 1, 0, 200}).one(4), 2);
        FilmPrinter x = greys(10, 20);
        copy(x, 0, 10, 5);
        copy(x, 1, 20, 5);
        due("one alone has each", x.one(4), 0);
        copy(x, 1, 10, 5);
        due("one alone has each still", x.one(4), 0);
    }

    private static void missingRows() {
        sentence("ONE: its cost (what 0), SEAMS (1), MISSING FRAMES (2), the longest row of MISSING ones (3), "
                + "OLDER ones (4). NONE.");
        int[] greys = {10, 20, 30, 40, 50, 60};
        int[][] had = {{}, {10}, {60}, {30}, {40}, {30, 60}, {10, 60}, {20, 50}, {10, 30, 50}, {10, 20, 30, 40, 50, 60}};
        int[][] due = {{6, 6}, {5, 5}, {5, 5}, {5, 3}, {5, 3}, {4, 2}, {4, 4}, {4, 2}, {3, 1}, {0, 0}};
        for (int n = 0; n < had.length; n++) {
            FilmPrinter x = greys(greys);
            for (int k = 0; k < had[n].length; k++) {
                copy(x, n % 2, had[n][k], 0);
            }
            due("MISSING of " + n, x.one(2), due[n][0]);
            due("longest row of " + n, x.one(3), due[n][1]);
        }
        FilmPrinter x = greys(greys);
        due("longest row without COPIES", x.one(3), 6);
        copy(x, 1, 30, 0);
        due("longest row with one frame", x.one(3), 3);
        x.clear();
        due("longest row without COPIES again", x.one(3), 6);
        FilmPrinter y = new FilmPrinter();
        due("MISSING of no FRAMES", y.one(2), 0);
        due("longest row of no FRAMES", y.one(3), 0);
        for (int n = 0; n < 16; n++) {
            y.shot(40, 0, 0, 0, 0, 0);
        }
        due("MISSING of 640", y.one(2), 640);
        due("longest row of 640", y.one(3), 640);
    }

    private static void costliest() {
        sentence("It costs the SCRATCHES of those that are taken");
        FilmPrinter x = new FilmPrinter();
        for (int n = 0; n < 16; n++) {
            x.shot(40, 255, 0, 0, 0, 0);
        }
        for (int n = 0; n < 4; n++) {
            copy(x, 0, row(n < 3 ? 400 : 80, 255));
            copy(x, 1, row(n < 3 ? 400 : 78, 255));
        }
        due("640 of 255", x.one(0), 640 * 255);
        due("SEAMS", x.one(1), 0);
        due("OLDER", x.one(4), 639);
        due("MISSING", x.one(2), 0);
        due("the last", x.from(639), 0);
        due("none behind it", x.from(640), NONE);
    }

    private static void oneAsked() {
        sentence("ONE: its cost (what 0), SEAMS (1), MISSING FRAMES (2), the longest row of MISSING ones (3), "
                + "OLDER ones (4). NONE.");
        FilmPrinter x = greys(10, 20, 30, 40, 50, 60);
        copy(x, 0, 10, 3, 20, 1);
        copy(x, 1, 10, 9, 40, 1);
        int[] all = {15, 1, 3, 2, 1};
        for (int what = 0; what <= 4; what++) {
            due("what " + what, x.one(what), all[what]);
        }
        for (int off : new int[] {-1, 5, MIN, MAX}) {
            due("what " + off, x.one(off), NONE);
        }
    }

    private static void fromFrames() {
        sentence("The COPY from which a FRAME is taken for ONE; NONE: MISSING, there is none such.");
        FilmPrinter x = greys(10, 20, 30);
        copy(x, 0, 10, 0);
        copy(x, 1, 30, 0);
        due("FRAME 0", x.from(0), 0);
        due("FRAME 1", x.from(1), NONE);
        due("FRAME 2", x.from(2), 1);
        for (int off : new int[] {-1, 3, 640, MIN, MAX}) {
            due("FRAME " + off, x.from(off), NONE);
        }
        x.shot(1, 30, 0, 0, 0, 0);
        due("FRAME 3 is there now, but MISSING", x.from(3), NONE);
        copy(x, 1, 30, 0);
        due("FRAME 3 is had now", x.from(3), 1);
    }

    private static void pairsOfStrips() {
        sentence("STRIPS 0 .. 2: PAIRS, 20 at most of each: what is SEEN 0 .. 255 is 0 .. 255 rightly "
                + "(told again: the later one counts).");
        FilmPrinter x = new FilmPrinter();
        for (int strip = 0; strip <= 2; strip++) {
            due("SEEN 0, rightly 255", x.pair(strip, 0, 255), 1);
            due("SEEN 255, rightly 0", x.pair(strip, 255, 0), 2);
            for (int n = 3; n <= 20; n++) {
                due("PAIR " + n, x.pair(strip, 10 * n, 100 + strip), n);
            }
            due("one too many", x.pair(strip, 1, 1), -5);
            due("status", x.status(), -5);
            due("told again", x.pair(strip, 255, 9), 20);
            due("status", x.status(), 0);
            due("told again as it is", x.pair(strip, 255, 9), 20);
            due("the later one counts", x.brought(strip, 255), 9);
            due("told again, the first", x.pair(strip, 0, 8), 20);
            due("the later one counts", x.brought(strip, 0), 8);
            due("one too many still", x.pair(strip, 254, 1), -5);
        }
        for (int strip = 0; strip <= 2; strip++) {
            due("each STRIP has its own", x.brought(strip, 100), 100 + strip);
        }
        for (int off : new int[] {-1, 3, MIN, MAX}) {
            due("STRIP " + off, x.pair(off, 0, 0), -1);
            due("STRIP " + off, x.brought(off, 0), NONE);
        }
    }

    private static void refusedPairs() {
        sentence("A PAIR of a STRIP: how many it has. -1; -5.");
        FilmPrinter x = new FilmPrinter();
        for (int off : new int[] {-1, 256, MIN, MAX}) {
            due("SEEN " + off, x.pair(0, off, 0), -1);
            due("rightly " + off, x.pair(0, 0, off), -1);
            due("status", x.status(), -1);
        }
        due("none was told", x.brought(0, 77), 77);
        due("the first", x.pair(0, 5, 50), 1);
        due("refused", x.pair(0, 5, 256), -1);
        due("as it was", x.brought(0, 5), 50);
        due("told again", x.pair(0, 5, 51), 1);
        for (int n = 2; n <= 20; n++) {
            x.pair(0, 5 * n, 50 + n);
        }
        due("no room", x.pair(0, 6, 200), -5);
        due("as it was", x.brought(0, 6), 51);
        due("another STRIP has room", x.pair(1, 6, 200), 1);
    }

    private static void inAPair() {
        sentence("BROUGHT BACK: a number that is in a PAIR by that");
        FilmPrinter x = new FilmPrinter();
        x.pair(0, 0, 17);
        x.pair(0, 255, 200);
        x.pair(0, 128, 3);
        due("0", x.brought(0, 0), 17);
        due("128", x.brought(0, 128), 3);
        due("255", x.brought(0, 255), 200);
        sentence("without PAIRS as it is.");
        due("0", x.brought(1, 0), 0);
        due("128", x.brought(1, 128), 128);
        due("255", x.brought(1, 255), 255);
        x.pair(1, 100, 90);
        due("with a PAIR", x.brought(1, 128), 118);
    }

    private static void betweenTwo() {
        sentence("between two (next to it by what is SEEN) by the lower one's right number and "
                + "(the difference of the right ones) times (how far it is above the lower one's SEEN) through "
                + "(the difference of the SEEN ones), cut towards 0");
        FilmPrinter x = new FilmPrinter();
        x.pair(0, 20, 105);
        x.pair(0, 10, 100);
        int[] rising = {100, 100, 101, 101, 102, 102, 103, 103, 104, 104, 105};
        x.pair(1, 10, 105);
        x.pair(1, 20, 100);
        int[] falling = {105, 105, 104, 104, 103, 103, 102, 102, 101, 101, 100};
        for (int n = 0; n <= 10; n++) {
            due("rising " + n, x.brought(0, 10 + n), rising[n]);
            due("falling " + n, x.brought(1, 10 + n), falling[n]);
        }
        x.pair(0, 14, 0);
        due("next to it below", x.brought(0, 13), 100 + -100 * 3 / 4);
        due("next to it above", x.brought(0, 15), 105 / 6);
        x.pair(0, 11, 7);
        due("no number is between", x.brought(0, 11), 7);
        x.pair(2, 0, 255);
        x.pair(2, 255, 0);
        due("1 of all", x.brought(2, 1), 254);
        due("254 of all", x.brought(2, 254), 1);
        x.pair(2, 0, 0);
        x.pair(2, 255, 1);
        due("254 of one", x.brought(2, 254), 0);
        due("255 of one", x.brought(2, 255), 1);
        x.pair(2, 0, 1);
        x.pair(2, 255, 0);
        due("254 of one down", x.brought(2, 254), 1);
        x.pair(2, 255, 1);
        due("alike", x.brought(2, 99), 1);
    }

    private static void belowAndAboveOneAtTheEnd() {
        sentence("below all, above all by as much as it is off from the next one, 0 .. 255 (else the nearest)");
        FilmPrinter x = new FilmPrinter();
        x.pair(0, 0, 17);
        due("above a PAIR at 0", x.brought(0, 5), 22);
        due("far above a PAIR at 0", x.brought(0, 238), 255);
        due("too far above a PAIR at 0", x.brought(0, 239), 255);
        x.pair(1, 255, 200);
        due("below a PAIR at 255", x.brought(1, 250), 195);
        due("far below a PAIR at 255", x.brought(1, 55), 0);
        due("too far below a PAIR at 255", x.brought(1, 54), 0);
        x.pair(2, 1, 0);
        due("below a PAIR at 1", x.brought(2, 0), 0);
        due("above a PAIR at 1", x.brought(2, 2), 1);
    }

    private static void belowAndAboveAll() {
        sentence("below all, above all by as much as it is off from the next one, 0 .. 255 (else the nearest)");
        FilmPrinter x = new FilmPrinter();
        x.pair(0, 100, 50);
        due("one below", x.brought(0, 99), 49);
        due("just 0", x.brought(0, 50), 0);
        due("just 1", x.brought(0, 51), 1);
        due("-1", x.brought(0, 49), 0);
        due("the lowest", x.brought(0, 0), 0);
        due("one above", x.brought(0, 101), 51);
        due("the highest", x.brought(0, 255), 205);
        x.pair(1, 100, 200);
        due("just 254", x.brought(1, 154), 254);
        due("just 255", x.brought(1, 155), 255);
        due("256", x.brought(1, 156), 255);
        due("the highest", x.brought(1, 255), 255);
        due("the lowest", x.brought(1, 0), 100);
        x.pair(2, 50, 60);
        x.pair(2, 70, 20);
        due("below the lower one", x.brought(2, 49), 59);
        due("above the higher one", x.brought(2, 71), 21);
        x.pair(2, 0, 0);
        x.pair(2, 255, 255);
        due("none is below", x.brought(2, 0), 0);
        due("none is above", x.brought(2, 255), 255);
    }

    private static void broughtOrNot() {
        sentence("A number of a STRIP BROUGHT BACK; NONE.");
        FilmPrinter x = new FilmPrinter();
        x.pair(2, 100, 101);
        for (int strip = 0; strip <= 2; strip++) {
            due("0 of " + strip, x.brought(strip, 0), strip == 2 ? 1 : 0);
            due("254 of " + strip, x.brought(strip, 254), strip == 2 ? 255 : 254);
            due("255 of " + strip, x.brought(strip, 255), 255);
            for (int off : new int[] {-1, 256, MIN, MAX}) {
                due(off + " of " + strip, x.brought(strip, off), NONE);
            }
        }
        for (int off : new int[] {-1, 3, MIN, MAX}) {
            due("STRIP " + off, x.brought(off, 100), NONE);
        }
    }
}
